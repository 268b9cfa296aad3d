theorem bk_X5_at_0 {d : Nat} (y_0 : Int64) (x_2 : Int32) {h : mH} {Q : Option Value → mH → Prop} (hF : Q (some (.int ((((y_0.toUInt64 >>> ((44 - (4 * x_2)).toInt64.toUInt64 &&& Int64.toUInt64 63)).toInt64).toInt32) &&& 15))) h) : Wm d (0, 0) JX5_at 0 [some (.long y_0), none, some (.int x_2)] [] h Q := by
  refine m_lload_n dX5_at_0 rfl ?_
  refine m_bipush dX5_at_1 kb_44 ?_
  refine m_iconst dX5_at_3 ki_4 ?_
  refine m_iload_n dX5_at_4 rfl ?_
  refine m_imul dX5_at_5 ?_
  refine m_isub dX5_at_6 ?_
  refine m_lushr dX5_at_7 ?_
  refine m_l2i dX5_at_8 ?_
  refine m_bipush dX5_at_9 kb_15 ?_
  refine m_iand dX5_at_11 ?_
  exact m_ireturn dX5_at_12 trivial hF
theorem en_X5_at {d : Nat} {y_0 : Int64} {x_2 : Int32} {h : mH} {K : Option Value → mH → Prop} (hk : Wm d (0, 0) JX5_at 0 [some (.long y_0), none, some (.int x_2)] [] h (fun r h' => h'.1 0 = h.1 0 ∧ K r h')) : Ev d (0, 0) MX5_at [.long y_0, .int x_2] h K :=
  m_met pn_X5 nl_X5 (fun _ => Nat.le_of_ble_eq_true rfl) hk
theorem bk_X5_with_0 {d : Nat} (y_0 : Int64) (x_2 : Int32) (x_3 : Int32) {h : mH} {Q : Option Value → mH → Prop} (hF : Q (some (.long (y_0 ||| (x_3.toInt64 <<< ((44 - (4 * x_2)).toInt64 &&& 63))))) h) : Wm d (0, 0) JX5_with 0 [some (.long y_0), none, some (.int x_2), some (.int x_3)] [] h Q := by
  refine m_lload_n dX5_with_0 rfl ?_
  refine m_iload_n dX5_with_1 rfl ?_
  refine m_i2l dX5_with_2 ?_
  refine m_bipush dX5_with_3 kb_44 ?_
  refine m_iconst dX5_with_5 ki_4 ?_
  refine m_iload_n dX5_with_6 rfl ?_
  refine m_imul dX5_with_7 ?_
  refine m_isub dX5_with_8 ?_
  refine m_lshl dX5_with_9 ?_
  refine m_lor dX5_with_10 ?_
  exact m_lreturn dX5_with_11 trivial hF
theorem en_X5_with {d : Nat} {y_0 : Int64} {x_2 : Int32} {x_3 : Int32} {h : mH} {K : Option Value → mH → Prop} (hk : Wm d (0, 0) JX5_with 0 [some (.long y_0), none, some (.int x_2), some (.int x_3)] [] h (fun r h' => h'.1 0 = h.1 0 ∧ K r h')) : Ev d (0, 0) MX5_with [.long y_0, .int x_2, .int x_3] h K :=
  m_met pn_X5 nl_X5 (fun _ => Nat.le_of_ble_eq_true rfl) hk
theorem bk_X5_still_0 {d : Nat} (x_0 : Int32) {h : mH} {Q : Option Value → mH → Prop} (hF : Wm (d + 1) (0, 0) JX5_still 4 [some (.int x_0), some (.long 0), none, some (.int 0)] [] h Q) : Wm (d + 1) (0, 0) JX5_still 0 [some (.int x_0), none, none, none] [] h Q := by
  refine m_lconst dX5_still_0 kl_0 ?_
  refine m_lstore_n (ls2 := [some (.int x_0), some (.long 0), none, none]) dX5_still_1 (by decide) rfl ?_
  refine m_iconst dX5_still_2 ki_0 ?_
  refine m_istore_n (ls2 := [some (.int x_0), some (.long 0), none, some (.int 0)]) dX5_still_3 (by decide) rfl ?_
  exact hF
theorem bk_X5_still_4 {d : Nat} (x_0 : Int32) (y_1 : Int64) (x_3 : Int32) {h : mH} {Q : Option Value → mH → Prop} (hF : ((x_0 ≤ x_3 → Q (some (.long y_1)) h) ∧ (¬ (x_0 ≤ x_3) → Ev d (0, 0) MX5_with [.long y_1, .int x_3, .int x_3] h (fun r1 h2 => ∃ y3 : Int64, r1 = some (.long y3) ∧ Wm (d + 1) (0, 0) JX5_still 4 [some (.int x_0), some (.long y3), none, some (.int (x_3 + 1))] [] h2 Q)))) : Wm (d + 1) (0, 0) JX5_still 4 [some (.int x_0), some (.long y_1), none, some (.int x_3)] [] h Q := by
  refine m_iload_n dX5_still_4 rfl ?_
  refine m_iload_n dX5_still_5 rfl ?_
  refine m_icmp_ge 22 dX5_still_6 (by decide) (fun c => ?_) (fun c => ?_)
  · replace hF := hF.1 c
    refine m_lload_n dX5_still_22 rfl ?_
    exact m_lreturn dX5_still_23 trivial hF
  · replace hF := hF.2 c
    refine m_lload_n dX5_still_9 rfl ?_
    refine m_iload_n dX5_still_10 rfl ?_
    refine m_iload_n dX5_still_11 rfl ?_
    refine m_static (as := [.long y_1, .int x_3, .int x_3]) (rest := []) cs_X5_9 dX5_still_12 rfl rfl (Nat.le_of_ble_eq_true rfl) (Nat.le_of_eq (Nat.zero_add _)) (Nat.le_of_eq (Nat.zero_add _)) (b1 := (0, 0)) (b2 := (0, 0)) (Ev.mono hF ?_)
    intro r1 h2 hF
    obtain ⟨y3, rfl, hF⟩ := hF
    refine m_lstore_n (ls2 := [some (.int x_0), some (.long y3), none, some (.int x_3)]) dX5_still_15 (by decide) rfl ?_
    refine m_iinc (v := x_3 + 1) (ls2 := [some (.int x_0), some (.long y3), none, some (.int (x_3 + 1))]) dX5_still_16 (by decide) rfl (congrArg (_ + ·) ki_1) rfl ?_
    refine m_goto 4 dX5_still_19 (by decide) ?_
    exact hF
theorem en_X5_still {d : Nat} {x_0 : Int32} {h : mH} {K : Option Value → mH → Prop} (hk : Wm (d + 1) (0, 0) JX5_still 0 [some (.int x_0), none, none, none] [] h (fun r h' => h'.1 0 = h.1 0 ∧ K r h')) : Ev (d + 1) (0, 0) MX5_still [.int x_0] h K :=
  m_met pn_X5 nl_X5 (fun _ => Nat.le_of_ble_eq_true rfl) hk
theorem bk_X5_behind_0 {d : Nat} (y_0 : Int64) (y_2 : Int64) (x_4 : Int32) {h : mH} {Q : Option Value → mH → Prop} (hF : Wm (d + 1) (0, 0) JX5_behind 6 [some (.long y_0), none, some (.long y_2), none, some (.int x_4), some (.long 0), none, some (.int 0)] [] h Q) : Wm (d + 1) (0, 0) JX5_behind 0 [some (.long y_0), none, some (.long y_2), none, some (.int x_4), none, none, none] [] h Q := by
  refine m_lconst dX5_behind_0 kl_0 ?_
  refine m_lstore (ls2 := [some (.long y_0), none, some (.long y_2), none, some (.int x_4), some (.long 0), none, none]) dX5_behind_1 (by decide) rfl ?_
  refine m_iconst dX5_behind_3 ki_0 ?_
  refine m_istore (ls2 := [some (.long y_0), none, some (.long y_2), none, some (.int x_4), some (.long 0), none, some (.int 0)]) dX5_behind_4 (by decide) rfl ?_
  exact hF
theorem bk_X5_behind_6 {d : Nat} (y_0 : Int64) (y_2 : Int64) (x_4 : Int32) (y_5 : Int64) (x_7 : Int32) {h : mH} {Q : Option Value → mH → Prop} (hF : ((x_4 ≤ x_7 → Q (some (.long y_5)) h) ∧ (¬ (x_4 ≤ x_7) → Ev d (0, 0) MX5_at [.long y_0, .int x_7] h (fun r1 h2 => ∃ x3 : Int32, r1 = some (.int x3) ∧ Ev d (0, 0) MX5_at [.long y_2, .int x3] h2 (fun r4 h5 => ∃ x6 : Int32, r4 = some (.int x6) ∧ Ev d (0, 0) MX5_with [.long y_5, .int x_7, .int x6] h5 (fun r7 h8 => ∃ y9 : Int64, r7 = some (.long y9) ∧ Wm (d + 1) (0, 0) JX5_behind 6 [some (.long y_0), none, some (.long y_2), none, some (.int x_4), some (.long y9), none, some (.int (x_7 + 1))] [] h8 Q)))))) : Wm (d + 1) (0, 0) JX5_behind 6 [some (.long y_0), none, some (.long y_2), none, some (.int x_4), some (.long y_5), none, some (.int x_7)] [] h Q := by
  refine m_iload dX5_behind_6 rfl ?_
  refine m_iload dX5_behind_8 rfl ?_
  refine m_icmp_ge 38 dX5_behind_10 (by decide) (fun c => ?_) (fun c => ?_)
  · replace hF := hF.1 c
    refine m_lload dX5_behind_38 rfl ?_
    exact m_lreturn dX5_behind_40 trivial hF
  · replace hF := hF.2 c
    refine m_lload dX5_behind_13 rfl ?_
    refine m_iload dX5_behind_15 rfl ?_
    refine m_lload_n dX5_behind_17 rfl ?_
    refine m_lload_n dX5_behind_18 rfl ?_
    refine m_iload dX5_behind_19 rfl ?_
    refine m_static (as := [.long y_0, .int x_7]) (rest := [.long y_2, .int x_7, .long y_5]) cs_X5_13 dX5_behind_21 rfl rfl (Nat.le_of_ble_eq_true rfl) (Nat.le_of_eq (Nat.zero_add _)) (Nat.le_of_eq (Nat.zero_add _)) (b1 := (0, 0)) (b2 := (0, 0)) (Ev.mono hF ?_)
    intro r1 h2 hF
    obtain ⟨x3, rfl, hF⟩ := hF
    refine m_static (as := [.long y_2, .int x3]) (rest := [.int x_7, .long y_5]) cs_X5_13 dX5_behind_24 rfl rfl (Nat.le_of_ble_eq_true rfl) (Nat.le_of_eq (Nat.zero_add _)) (Nat.le_of_eq (Nat.zero_add _)) (b1 := (0, 0)) (b2 := (0, 0)) (Ev.mono hF ?_)
    intro r4 h5 hF
    obtain ⟨x6, rfl, hF⟩ := hF
    refine m_static (as := [.long y_5, .int x_7, .int x6]) (rest := []) cs_X5_9 dX5_behind_27 rfl rfl (Nat.le_of_ble_eq_true rfl) (Nat.le_of_eq (Nat.zero_add _)) (Nat.le_of_eq (Nat.zero_add _)) (b1 := (0, 0)) (b2 := (0, 0)) (Ev.mono hF ?_)
    intro r7 h8 hF
    obtain ⟨y9, rfl, hF⟩ := hF
    refine m_lstore (ls2 := [some (.long y_0), none, some (.long y_2), none, some (.int x_4), some (.long y9), none, some (.int x_7)]) dX5_behind_30 (by decide) rfl ?_
    refine m_iinc (v := x_7 + 1) (ls2 := [some (.long y_0), none, some (.long y_2), none, some (.int x_4), some (.long y9), none, some (.int (x_7 + 1))]) dX5_behind_32 (by decide) rfl (congrArg (_ + ·) ki_1) rfl ?_
    refine m_goto 6 dX5_behind_35 (by decide) ?_
    exact hF
theorem en_X5_behind {d : Nat} {y_0 : Int64} {y_2 : Int64} {x_4 : Int32} {h : mH} {K : Option Value → mH → Prop} (hk : Wm (d + 1) (0, 0) JX5_behind 0 [some (.long y_0), none, some (.long y_2), none, some (.int x_4), none, none, none] [] h (fun r h' => h'.1 0 = h.1 0 ∧ K r h')) : Ev (d + 1) (0, 0) MX5_behind [.long y_0, .long y_2, .int x_4] h K :=
  m_met pn_X5 nl_X5 (fun _ => Nat.le_of_ble_eq_true rfl) hk
theorem bk_X5_inverse_0 {d : Nat} (y_0 : Int64) (x_2 : Int32) {h : mH} {Q : Option Value → mH → Prop} (hF : Wm (d + 1) (0, 0) JX5_inverse 5 [some (.long y_0), none, some (.int x_2), some (.long 0), none, some (.int 0)] [] h Q) : Wm (d + 1) (0, 0) JX5_inverse 0 [some (.long y_0), none, some (.int x_2), none, none, none] [] h Q := by
  refine m_lconst dX5_inverse_0 kl_0 ?_
  refine m_lstore_n (ls2 := [some (.long y_0), none, some (.int x_2), some (.long 0), none, none]) dX5_inverse_1 (by decide) rfl ?_
  refine m_iconst dX5_inverse_2 ki_0 ?_
  refine m_istore (ls2 := [some (.long y_0), none, some (.int x_2), some (.long 0), none, some (.int 0)]) dX5_inverse_3 (by decide) rfl ?_
  exact hF
theorem bk_X5_inverse_5 {d : Nat} (y_0 : Int64) (x_2 : Int32) (y_3 : Int64) (x_5 : Int32) {h : mH} {Q : Option Value → mH → Prop} (hF : ((x_2 ≤ x_5 → Q (some (.long y_3)) h) ∧ (¬ (x_2 ≤ x_5) → Ev d (0, 0) MX5_at [.long y_0, .int x_5] h (fun r1 h2 => ∃ x3 : Int32, r1 = some (.int x3) ∧ Ev d (0, 0) MX5_with [.long y_3, .int x3, .int x_5] h2 (fun r4 h5 => ∃ y6 : Int64, r4 = some (.long y6) ∧ Wm (d + 1) (0, 0) JX5_inverse 5 [some (.long y_0), none, some (.int x_2), some (.long y6), none, some (.int (x_5 + 1))] [] h5 Q))))) : Wm (d + 1) (0, 0) JX5_inverse 5 [some (.long y_0), none, some (.int x_2), some (.long y_3), none, some (.int x_5)] [] h Q := by
  refine m_iload dX5_inverse_5 rfl ?_
  refine m_iload_n dX5_inverse_7 rfl ?_
  refine m_icmp_ge 30 dX5_inverse_8 (by decide) (fun c => ?_) (fun c => ?_)
  · replace hF := hF.1 c
    refine m_lload_n dX5_inverse_30 rfl ?_
    exact m_lreturn dX5_inverse_31 trivial hF
  · replace hF := hF.2 c
    refine m_lload_n dX5_inverse_11 rfl ?_
    refine m_lload_n dX5_inverse_12 rfl ?_
    refine m_iload dX5_inverse_13 rfl ?_
    refine m_static (as := [.long y_0, .int x_5]) (rest := [.long y_3]) cs_X5_13 dX5_inverse_15 rfl rfl (Nat.le_of_ble_eq_true rfl) (Nat.le_of_eq (Nat.zero_add _)) (Nat.le_of_eq (Nat.zero_add _)) (b1 := (0, 0)) (b2 := (0, 0)) (Ev.mono hF ?_)
    intro r1 h2 hF
    obtain ⟨x3, rfl, hF⟩ := hF
    refine m_iload dX5_inverse_18 rfl ?_
    refine m_static (as := [.long y_3, .int x3, .int x_5]) (rest := []) cs_X5_9 dX5_inverse_20 rfl rfl (Nat.le_of_ble_eq_true rfl) (Nat.le_of_eq (Nat.zero_add _)) (Nat.le_of_eq (Nat.zero_add _)) (b1 := (0, 0)) (b2 := (0, 0)) (Ev.mono hF ?_)
    intro r4 h5 hF
    obtain ⟨y6, rfl, hF⟩ := hF
    refine m_lstore_n (ls2 := [some (.long y_0), none, some (.int x_2), some (.long y6), none, some (.int x_5)]) dX5_inverse_23 (by decide) rfl ?_
    refine m_iinc (v := x_5 + 1) (ls2 := [some (.long y_0), none, some (.int x_2), some (.long y6), none, some (.int (x_5 + 1))]) dX5_inverse_24 (by decide) rfl (congrArg (_ + ·) ki_1) rfl ?_
    refine m_goto 5 dX5_inverse_27 (by decide) ?_
    exact hF
theorem en_X5_inverse {d : Nat} {y_0 : Int64} {x_2 : Int32} {h : mH} {K : Option Value → mH → Prop} (hk : Wm (d + 1) (0, 0) JX5_inverse 0 [some (.long y_0), none, some (.int x_2), none, none, none] [] h (fun r h' => h'.1 0 = h.1 0 ∧ K r h')) : Ev (d + 1) (0, 0) MX5_inverse [.long y_0, .int x_2] h K :=
  m_met pn_X5 nl_X5 (fun _ => Nat.le_of_ble_eq_true rfl) hk
theorem bk_X5_merged_0 {d : Nat} (y_0 : Int64) (x_2 : Int32) (x_3 : Int32) (x_4 : Int32) {h : mH} {Q : Option Value → mH → Prop} (hF : ((¬ x_2 = x_3 → Wm (d + 1) (0, 0) JX5_merged 27 [some (.long y_0), none, none, none, some (.int x_4), some (.int (if x_3 < x_2 then x_3 else x_2)), some (.int (if x_2 < x_3 then x_3 else x_2)), some (.long 0), none, some (.int 0), none] [] h Q) ∧ (x_2 = x_3 → Q (some (.long y_0)) h))) : Wm (d + 1) (0, 0) JX5_merged 0 [some (.long y_0), none, some (.int x_2), some (.int x_3), some (.int x_4), none, none, none, none, none, none] [] h Q := by
  refine m_iload_n dX5_merged_0 rfl ?_
  refine m_iload_n dX5_merged_1 rfl ?_
  refine m_icmp_ne 7 dX5_merged_2 (by decide) (fun c => ?_) (fun c => ?_)
  · replace hF := hF.1 c
    refine m_iload_n dX5_merged_7 rfl ?_
    refine m_iload_n dX5_merged_8 rfl ?_
    refine m_mmin mm_X5_17 mmin_1 mmin_2 mmin_3 dX5_merged_9 (Nat.le_of_ble_eq_true rfl) ?_
    refine m_istore (ls2 := [some (.long y_0), none, some (.int x_2), some (.int x_3), some (.int x_4), some (.int (if x_3 < x_2 then x_3 else x_2)), none, none, none, none, none]) dX5_merged_12 (by decide) rfl ?_
    refine m_iload_n dX5_merged_14 rfl ?_
    refine m_iload_n dX5_merged_15 rfl ?_
    refine m_mmax mm_X5_23 mmax_1 mmax_2 mmax_3 dX5_merged_16 (Nat.le_of_ble_eq_true rfl) ?_
    refine m_istore (ls2 := [some (.long y_0), none, some (.int x_2), some (.int x_3), some (.int x_4), some (.int (if x_3 < x_2 then x_3 else x_2)), some (.int (if x_2 < x_3 then x_3 else x_2)), none, none, none, none]) dX5_merged_19 (by decide) rfl ?_
    refine m_lconst dX5_merged_21 kl_0 ?_
    refine m_lstore (ls2 := [some (.long y_0), none, some (.int x_2), some (.int x_3), some (.int x_4), some (.int (if x_3 < x_2 then x_3 else x_2)), some (.int (if x_2 < x_3 then x_3 else x_2)), some (.long 0), none, none, none]) dX5_merged_22 (by decide) rfl ?_
    refine m_iconst dX5_merged_24 ki_0 ?_
    refine m_istore (ls2 := [some (.long y_0), none, some (.int x_2), some (.int x_3), some (.int x_4), some (.int (if x_3 < x_2 then x_3 else x_2)), some (.int (if x_2 < x_3 then x_3 else x_2)), some (.long 0), none, some (.int 0), none]) dX5_merged_25 (by decide) rfl ?_
    refine m_wk [2, 3] rfl ?_
    exact hF
  · replace hF := hF.2 c
    refine m_lload_n dX5_merged_5 rfl ?_
    exact m_lreturn dX5_merged_6 trivial hF
theorem bk_X5_merged_27 {d : Nat} (y_0 : Int64) (x_4 : Int32) (x_5 : Int32) (x_6 : Int32) (y_7 : Int64) (x_9 : Int32) {h : mH} {Q : Option Value → mH → Prop} (hF : ((x_4 ≤ x_9 → Q (some (.long y_7)) h) ∧ (¬ (x_4 ≤ x_9) → Ev d (0, 0) MX5_at [.long y_0, .int x_9] h (fun r1 h2 => ∃ x3 : Int32, r1 = some (.int x3) ∧ ((¬ x3 = x_6 → Ev d (0, 0) MX5_with [.long y_7, .int x_9, .int x3] h2 (fun r4 h5 => ∃ y6 : Int64, r4 = some (.long y6) ∧ Wm (d + 1) (0, 0) JX5_merged 27 [some (.long y_0), none, none, none, some (.int x_4), some (.int x_5), some (.int x_6), some (.long y6), none, some (.int (x_9 + 1)), none] [] h5 Q)) ∧ (x3 = x_6 → Ev d (0, 0) MX5_with [.long y_7, .int x_9, .int x_5] h2 (fun r7 h8 => ∃ y9 : Int64, r7 = some (.long y9) ∧ Wm (d + 1) (0, 0) JX5_merged 27 [some (.long y_0), none, none, none, some (.int x_4), some (.int x_5), some (.int x_6), some (.long y9), none, some (.int (x_9 + 1)), none] [] h8 Q))))))) : Wm (d + 1) (0, 0) JX5_merged 27 [some (.long y_0), none, none, none, some (.int x_4), some (.int x_5), some (.int x_6), some (.long y_7), none, some (.int x_9), none] [] h Q := by
  refine m_iload dX5_merged_27 rfl ?_
  refine m_iload dX5_merged_29 rfl ?_
  refine m_icmp_ge 71 dX5_merged_31 (by decide) (fun c => ?_) (fun c => ?_)
  · replace hF := hF.1 c
    refine m_lload dX5_merged_71 rfl ?_
    exact m_lreturn dX5_merged_73 trivial hF
  · replace hF := hF.2 c
    refine m_lload_n dX5_merged_34 rfl ?_
    refine m_iload dX5_merged_35 rfl ?_
    refine m_static (as := [.long y_0, .int x_9]) (rest := []) cs_X5_13 dX5_merged_37 rfl rfl (Nat.le_of_ble_eq_true rfl) (Nat.le_of_eq (Nat.zero_add _)) (Nat.le_of_eq (Nat.zero_add _)) (b1 := (0, 0)) (b2 := (0, 0)) (Ev.mono hF ?_)
    intro r1 h2 hF
    obtain ⟨x3, rfl, hF⟩ := hF
    refine m_istore (ls2 := [some (.long y_0), none, none, none, some (.int x_4), some (.int x_5), some (.int x_6), some (.long y_7), none, some (.int x_9), some (.int x3)]) dX5_merged_40 (by decide) rfl ?_
    refine m_lload dX5_merged_42 rfl ?_
    refine m_iload dX5_merged_44 rfl ?_
    refine m_iload dX5_merged_46 rfl ?_
    refine m_iload dX5_merged_48 rfl ?_
    refine m_icmp_ne 58 dX5_merged_50 (by decide) (fun c => ?_) (fun c => ?_)
    · replace hF := hF.1 c
      refine m_iload dX5_merged_58 rfl ?_
      refine m_static (as := [.long y_7, .int x_9, .int x3]) (rest := []) cs_X5_9 dX5_merged_60 rfl rfl (Nat.le_of_ble_eq_true rfl) (Nat.le_of_eq (Nat.zero_add _)) (Nat.le_of_eq (Nat.zero_add _)) (b1 := (0, 0)) (b2 := (0, 0)) (Ev.mono hF ?_)
      intro r4 h5 hF
      obtain ⟨y6, rfl, hF⟩ := hF
      refine m_lstore (ls2 := [some (.long y_0), none, none, none, some (.int x_4), some (.int x_5), some (.int x_6), some (.long y6), none, some (.int x_9), some (.int x3)]) dX5_merged_63 (by decide) rfl ?_
      refine m_iinc (v := x_9 + 1) (ls2 := [some (.long y_0), none, none, none, some (.int x_4), some (.int x_5), some (.int x_6), some (.long y6), none, some (.int (x_9 + 1)), some (.int x3)]) dX5_merged_65 (by decide) rfl (congrArg (_ + ·) ki_1) rfl ?_
      refine m_goto 27 dX5_merged_68 (by decide) ?_
      refine m_wk [10] rfl ?_
      exact hF
    · replace hF := hF.2 c
      refine m_iload dX5_merged_53 rfl ?_
      refine m_goto 60 dX5_merged_55 (by decide) ?_
      refine m_static (as := [.long y_7, .int x_9, .int x_5]) (rest := []) cs_X5_9 dX5_merged_60 rfl rfl (Nat.le_of_ble_eq_true rfl) (Nat.le_of_eq (Nat.zero_add _)) (Nat.le_of_eq (Nat.zero_add _)) (b1 := (0, 0)) (b2 := (0, 0)) (Ev.mono hF ?_)
      intro r7 h8 hF
      obtain ⟨y9, rfl, hF⟩ := hF
      refine m_lstore (ls2 := [some (.long y_0), none, none, none, some (.int x_4), some (.int x_5), some (.int x_6), some (.long y9), none, some (.int x_9), some (.int x3)]) dX5_merged_63 (by decide) rfl ?_
      refine m_iinc (v := x_9 + 1) (ls2 := [some (.long y_0), none, none, none, some (.int x_4), some (.int x_5), some (.int x_6), some (.long y9), none, some (.int (x_9 + 1)), some (.int x3)]) dX5_merged_65 (by decide) rfl (congrArg (_ + ·) ki_1) rfl ?_
      refine m_goto 27 dX5_merged_68 (by decide) ?_
      refine m_wk [10] rfl ?_
      exact hF
theorem en_X5_merged {d : Nat} {y_0 : Int64} {x_2 : Int32} {x_3 : Int32} {x_4 : Int32} {h : mH} {K : Option Value → mH → Prop} (hk : Wm (d + 1) (0, 0) JX5_merged 0 [some (.long y_0), none, some (.int x_2), some (.int x_3), some (.int x_4), none, none, none, none, none, none] [] h (fun r h' => h'.1 0 = h.1 0 ∧ K r h')) : Ev (d + 1) (0, 0) MX5_merged [.long y_0, .int x_2, .int x_3, .int x_4] h K :=
  m_met pn_X5 nl_X5 (fun _ => Nat.le_of_ble_eq_true rfl) hk
theorem bk_X5_mergedAlong_0 {d : Nat} (y_0 : Int64) (y_2 : Int64) (y_4 : Int64) (x_6 : Int32) {h : mH} {Q : Option Value → mH → Prop} (hF : Wm (d + 1) (0, 0) JX5_mergedAlong 6 [none, none, some (.long y_2), none, some (.long y_4), none, some (.int x_6), some (.long y_0), none, some (.int 0)] [] h Q) : Wm (d + 1) (0, 0) JX5_mergedAlong 0 [some (.long y_0), none, some (.long y_2), none, some (.long y_4), none, some (.int x_6), none, none, none] [] h Q := by
  refine m_lload_n dX5_mergedAlong_0 rfl ?_
  refine m_lstore (ls2 := [some (.long y_0), none, some (.long y_2), none, some (.long y_4), none, some (.int x_6), some (.long y_0), none, none]) dX5_mergedAlong_1 (by decide) rfl ?_
  refine m_iconst dX5_mergedAlong_3 ki_0 ?_
  refine m_istore (ls2 := [some (.long y_0), none, some (.long y_2), none, some (.long y_4), none, some (.int x_6), some (.long y_0), none, some (.int 0)]) dX5_mergedAlong_4 (by decide) rfl ?_
  refine m_wk [0] rfl ?_
  exact hF
theorem bk_X5_mergedAlong_6 {d : Nat} (y_2 : Int64) (y_4 : Int64) (x_6 : Int32) (y_7 : Int64) (x_9 : Int32) {h : mH} {Q : Option Value → mH → Prop} (hF : ((x_6 ≤ x_9 → Q (some (.long y_7)) h) ∧ (¬ (x_6 ≤ x_9) → Ev d (0, 0) MX5_at [.long y_2, .int x_9] h (fun r1 h2 => ∃ x3 : Int32, r1 = some (.int x3) ∧ Ev d (0, 0) MX5_at [.long y_7, .int x3] h2 (fun r4 h5 => ∃ x6 : Int32, r4 = some (.int x6) ∧ Ev d (0, 0) MX5_at [.long y_4, .int x_9] h5 (fun r7 h8 => ∃ x9 : Int32, r7 = some (.int x9) ∧ Ev d (0, 0) MX5_at [.long y_7, .int x9] h8 (fun r10 h11 => ∃ x12 : Int32, r10 = some (.int x12) ∧ Ev d (0, 0) MX5_merged [.long y_7, .int x6, .int x12, .int x_6] h11 (fun r13 h14 => ∃ y15 : Int64, r13 = some (.long y15) ∧ Wm (d + 1) (0, 0) JX5_mergedAlong 6 [none, none, some (.long y_2), none, some (.long y_4), none, some (.int x_6), some (.long y15), none, some (.int (x_9 + 1))] [] h14 Q)))))))) : Wm (d + 1) (0, 0) JX5_mergedAlong 6 [none, none, some (.long y_2), none, some (.long y_4), none, some (.int x_6), some (.long y_7), none, some (.int x_9)] [] h Q := by
  refine m_iload dX5_mergedAlong_6 rfl ?_
  refine m_iload dX5_mergedAlong_8 rfl ?_
  refine m_icmp_ge 51 dX5_mergedAlong_10 (by decide) (fun c => ?_) (fun c => ?_)
  · replace hF := hF.1 c
    refine m_lload dX5_mergedAlong_51 rfl ?_
    exact m_lreturn dX5_mergedAlong_53 trivial hF
  · replace hF := hF.2 c
    refine m_lload dX5_mergedAlong_13 rfl ?_
    refine m_lload dX5_mergedAlong_15 rfl ?_
    refine m_lload_n dX5_mergedAlong_17 rfl ?_
    refine m_iload dX5_mergedAlong_18 rfl ?_
    refine m_static (as := [.long y_2, .int x_9]) (rest := [.long y_7, .long y_7]) cs_X5_13 dX5_mergedAlong_20 rfl rfl (Nat.le_of_ble_eq_true rfl) (Nat.le_of_eq (Nat.zero_add _)) (Nat.le_of_eq (Nat.zero_add _)) (b1 := (0, 0)) (b2 := (0, 0)) (Ev.mono hF ?_)
    intro r1 h2 hF
    obtain ⟨x3, rfl, hF⟩ := hF
    refine m_static (as := [.long y_7, .int x3]) (rest := [.long y_7]) cs_X5_13 dX5_mergedAlong_23 rfl rfl (Nat.le_of_ble_eq_true rfl) (Nat.le_of_eq (Nat.zero_add _)) (Nat.le_of_eq (Nat.zero_add _)) (b1 := (0, 0)) (b2 := (0, 0)) (Ev.mono hF ?_)
    intro r4 h5 hF
    obtain ⟨x6, rfl, hF⟩ := hF
    refine m_lload dX5_mergedAlong_26 rfl ?_
    refine m_lload dX5_mergedAlong_28 rfl ?_
    refine m_iload dX5_mergedAlong_30 rfl ?_
    refine m_static (as := [.long y_4, .int x_9]) (rest := [.long y_7, .int x6, .long y_7]) cs_X5_13 dX5_mergedAlong_32 rfl rfl (Nat.le_of_ble_eq_true rfl) (Nat.le_of_eq (Nat.zero_add _)) (Nat.le_of_eq (Nat.zero_add _)) (b1 := (0, 0)) (b2 := (0, 0)) (Ev.mono hF ?_)
    intro r7 h8 hF
    obtain ⟨x9, rfl, hF⟩ := hF
    refine m_static (as := [.long y_7, .int x9]) (rest := [.int x6, .long y_7]) cs_X5_13 dX5_mergedAlong_35 rfl rfl (Nat.le_of_ble_eq_true rfl) (Nat.le_of_eq (Nat.zero_add _)) (Nat.le_of_eq (Nat.zero_add _)) (b1 := (0, 0)) (b2 := (0, 0)) (Ev.mono hF ?_)
    intro r10 h11 hF
    obtain ⟨x12, rfl, hF⟩ := hF
    refine m_iload dX5_mergedAlong_38 rfl ?_
    refine m_static (as := [.long y_7, .int x6, .int x12, .int x_6]) (rest := []) cs_X5_26 dX5_mergedAlong_40 rfl rfl (Nat.le_of_ble_eq_true rfl) (Nat.le_of_eq (Nat.zero_add _)) (Nat.le_of_eq (Nat.zero_add _)) (b1 := (0, 0)) (b2 := (0, 0)) (Ev.mono hF ?_)
    intro r13 h14 hF
    obtain ⟨y15, rfl, hF⟩ := hF
    refine m_lstore (ls2 := [none, none, some (.long y_2), none, some (.long y_4), none, some (.int x_6), some (.long y15), none, some (.int x_9)]) dX5_mergedAlong_43 (by decide) rfl ?_
    refine m_iinc (v := x_9 + 1) (ls2 := [none, none, some (.long y_2), none, some (.long y_4), none, some (.int x_6), some (.long y15), none, some (.int (x_9 + 1))]) dX5_mergedAlong_45 (by decide) rfl (congrArg (_ + ·) ki_1) rfl ?_
    refine m_goto 6 dX5_mergedAlong_48 (by decide) ?_
    exact hF
theorem en_X5_mergedAlong {d : Nat} {y_0 : Int64} {y_2 : Int64} {y_4 : Int64} {x_6 : Int32} {h : mH} {K : Option Value → mH → Prop} (hk : Wm (d + 1) (0, 0) JX5_mergedAlong 0 [some (.long y_0), none, some (.long y_2), none, some (.long y_4), none, some (.int x_6), none, none, none] [] h (fun r h' => h'.1 0 = h.1 0 ∧ K r h')) : Ev (d + 1) (0, 0) MX5_mergedAlong [.long y_0, .long y_2, .long y_4, .int x_6] h K :=
  m_met pn_X5 nl_X5 (fun _ => Nat.le_of_ble_eq_true rfl) hk
theorem bk_X5_ledTogether_0 {d : Nat} (r_0 : Nat) (x_1 : Int32) {h : mH} {Q : Option Value → mH → Prop} (hF : Ev d (0, 0) MX5_still [.int x_1] h (fun r1 h2 => ∃ y3 : Int64, r1 = some (.long y3) ∧ Wm (d + 1) (0, 0) JX5_ledTogether 8 [some (.ref r_0), some (.int x_1), some (.long y3), none, some (.int 0)] [] h2 Q)) : Wm (d + 1) (0, 0) JX5_ledTogether 0 [some (.ref r_0), some (.int x_1), none, none, none] [] h Q := by
  refine m_iload_n dX5_ledTogether_0 rfl ?_
  refine m_static (as := [.int x_1]) (rest := []) cs_X5_30 dX5_ledTogether_1 rfl rfl (Nat.le_of_ble_eq_true rfl) (Nat.le_of_eq (Nat.zero_add _)) (Nat.le_of_eq (Nat.zero_add _)) (b1 := (0, 0)) (b2 := (0, 0)) (Ev.mono hF ?_)
  intro r1 h2 hF
  obtain ⟨y3, rfl, hF⟩ := hF
  refine m_lstore_n (ls2 := [some (.ref r_0), some (.int x_1), some (.long y3), none, none]) dX5_ledTogether_4 (by decide) rfl ?_
  refine m_iconst dX5_ledTogether_5 ki_0 ?_
  refine m_istore (ls2 := [some (.ref r_0), some (.int x_1), some (.long y3), none, some (.int 0)]) dX5_ledTogether_6 (by decide) rfl ?_
  exact hF
theorem bk_X5_ledTogether_8 {d : Nat} (r_0 : Nat) (x_1 : Int32) (y_2 : Int64) (x_4 : Int32) {h : mH} {Q : Option Value → mH → Prop} (hF : (∃ n1 : Nat, m_len h r_0 = some n1 ∧ (((nI n1) ≤ x_4 → Q (some (.long y_2)) h) ∧ (¬ ((nI n1) ≤ x_4) → Ev d (0, 0) MX5_still [.int x_1] h (fun r2 h3 => ∃ y4 : Int64, r2 = some (.long y4) ∧ (∃ y5 : Int64, m_ll h3 r_0 x_4 = some y5 ∧ Ev d (0, 0) MX5_mergedAlong [.long y_2, .long y4, .long y5, .int x_1] h3 (fun r6 h7 => ∃ y8 : Int64, r6 = some (.long y8) ∧ Wm (d + 1) (0, 0) JX5_ledTogether 8 [some (.ref r_0), some (.int x_1), some (.long y8), none, some (.int (x_4 + 1))] [] h7 Q))))))) : Wm (d + 1) (0, 0) JX5_ledTogether 8 [some (.ref r_0), some (.int x_1), some (.long y_2), none, some (.int x_4)] [] h Q := by
  refine m_iload dX5_ledTogether_8 rfl ?_
  refine m_aload_n dX5_ledTogether_10 rfl ?_
  obtain ⟨n1, e, hF⟩ := hF
  refine m_alen dX5_ledTogether_11 e ?_
  refine m_icmp_ge 35 dX5_ledTogether_12 (by decide) (fun c => ?_) (fun c => ?_)
  · replace hF := hF.1 c
    refine m_lload_n dX5_ledTogether_35 rfl ?_
    exact m_lreturn dX5_ledTogether_36 trivial hF
  · replace hF := hF.2 c
    refine m_lload_n dX5_ledTogether_15 rfl ?_
    refine m_iload_n dX5_ledTogether_16 rfl ?_
    refine m_static (as := [.int x_1]) (rest := [.long y_2]) cs_X5_30 dX5_ledTogether_17 rfl rfl (Nat.le_of_ble_eq_true rfl) (Nat.le_of_eq (Nat.zero_add _)) (Nat.le_of_eq (Nat.zero_add _)) (b1 := (0, 0)) (b2 := (0, 0)) (Ev.mono hF ?_)
    intro r2 h3 hF
    obtain ⟨y4, rfl, hF⟩ := hF
    refine m_aload_n dX5_ledTogether_20 rfl ?_
    refine m_iload dX5_ledTogether_21 rfl ?_
    obtain ⟨y5, e, hF⟩ := hF
    refine m_lald dX5_ledTogether_23 e ?_
    refine m_iload_n dX5_ledTogether_24 rfl ?_
    refine m_static (as := [.long y_2, .long y4, .long y5, .int x_1]) (rest := []) cs_X5_34 dX5_ledTogether_25 rfl rfl (Nat.le_of_ble_eq_true rfl) (Nat.le_of_eq (Nat.zero_add _)) (Nat.le_of_eq (Nat.zero_add _)) (b1 := (0, 0)) (b2 := (0, 0)) (Ev.mono hF ?_)
    intro r6 h7 hF
    obtain ⟨y8, rfl, hF⟩ := hF
    refine m_lstore_n (ls2 := [some (.ref r_0), some (.int x_1), some (.long y8), none, some (.int x_4)]) dX5_ledTogether_28 (by decide) rfl ?_
    refine m_iinc (v := x_4 + 1) (ls2 := [some (.ref r_0), some (.int x_1), some (.long y8), none, some (.int (x_4 + 1))]) dX5_ledTogether_29 (by decide) rfl (congrArg (_ + ·) ki_1) rfl ?_
    refine m_goto 8 dX5_ledTogether_32 (by decide) ?_
    exact hF
theorem en_X5_ledTogether {d : Nat} {r_0 : Nat} {x_1 : Int32} {h : mH} {K : Option Value → mH → Prop} (hk : Wm (d + 1) (0, 0) JX5_ledTogether 0 [some (.ref r_0), some (.int x_1), none, none, none] [] h (fun r h' => h'.1 0 = h.1 0 ∧ K r h')) : Ev (d + 1) (0, 0) MX5_ledTogether [.ref r_0, .int x_1] h K :=
  m_met pn_X5 nl_X5 (fun _ => Nat.le_of_ble_eq_true rfl) hk
theorem bk_X5_leaders_0 {d : Nat} (y_0 : Int64) (x_2 : Int32) {h : mH} {Q : Option Value → mH → Prop} (hF : Wm (d + 1) (0, 0) JX5_leaders 5 [some (.long y_0), none, some (.int x_2), some (.int 0), some (.int 0)] [] h Q) : Wm (d + 1) (0, 0) JX5_leaders 0 [some (.long y_0), none, some (.int x_2), none, none] [] h Q := by
  refine m_iconst dX5_leaders_0 ki_0 ?_
  refine m_istore_n (ls2 := [some (.long y_0), none, some (.int x_2), some (.int 0), none]) dX5_leaders_1 (by decide) rfl ?_
  refine m_iconst dX5_leaders_2 ki_0 ?_
  refine m_istore (ls2 := [some (.long y_0), none, some (.int x_2), some (.int 0), some (.int 0)]) dX5_leaders_3 (by decide) rfl ?_
  exact hF
theorem bk_X5_leaders_5 {d : Nat} (y_0 : Int64) (x_2 : Int32) (x_3 : Int32) (x_4 : Int32) {h : mH} {Q : Option Value → mH → Prop} (hF : ((x_2 ≤ x_4 → Q (some (.int x_3)) h) ∧ (¬ (x_2 ≤ x_4) → Ev d (0, 0) MX5_at [.long y_0, .int x_4] h (fun r1 h2 => ∃ x3 : Int32, r1 = some (.int x3) ∧ ((¬ x3 = x_4 → Wm (d + 1) (0, 0) JX5_leaders 5 [some (.long y_0), none, some (.int x_2), some (.int x_3), some (.int (x_4 + 1))] [] h2 Q) ∧ (x3 = x_4 → Wm (d + 1) (0, 0) JX5_leaders 5 [some (.long y_0), none, some (.int x_2), some (.int (x_3 ||| (1 <<< (x_4 &&& 31)))), some (.int (x_4 + 1))] [] h2 Q)))))) : Wm (d + 1) (0, 0) JX5_leaders 5 [some (.long y_0), none, some (.int x_2), some (.int x_3), some (.int x_4)] [] h Q := by
  refine m_iload dX5_leaders_5 rfl ?_
  refine m_iload_n dX5_leaders_7 rfl ?_
  refine m_icmp_ge 35 dX5_leaders_8 (by decide) (fun c => ?_) (fun c => ?_)
  · replace hF := hF.1 c
    refine m_iload_n dX5_leaders_35 rfl ?_
    exact m_ireturn dX5_leaders_36 trivial hF
  · replace hF := hF.2 c
    refine m_lload_n dX5_leaders_11 rfl ?_
    refine m_iload dX5_leaders_12 rfl ?_
    refine m_static (as := [.long y_0, .int x_4]) (rest := []) cs_X5_13 dX5_leaders_14 rfl rfl (Nat.le_of_ble_eq_true rfl) (Nat.le_of_eq (Nat.zero_add _)) (Nat.le_of_eq (Nat.zero_add _)) (b1 := (0, 0)) (b2 := (0, 0)) (Ev.mono hF ?_)
    intro r1 h2 hF
    obtain ⟨x3, rfl, hF⟩ := hF
    refine m_iload dX5_leaders_17 rfl ?_
    refine m_icmp_ne 29 dX5_leaders_19 (by decide) (fun c => ?_) (fun c => ?_)
    · replace hF := hF.1 c
      refine m_iinc (v := x_4 + 1) (ls2 := [some (.long y_0), none, some (.int x_2), some (.int x_3), some (.int (x_4 + 1))]) dX5_leaders_29 (by decide) rfl (congrArg (_ + ·) ki_1) rfl ?_
      refine m_goto 5 dX5_leaders_32 (by decide) ?_
      exact hF
    · replace hF := hF.2 c
      refine m_iload_n dX5_leaders_22 rfl ?_
      refine m_iconst dX5_leaders_23 ki_1 ?_
      refine m_iload dX5_leaders_24 rfl ?_
      refine m_ishl dX5_leaders_26 ?_
      refine m_ior dX5_leaders_27 ?_
      refine m_istore_n (ls2 := [some (.long y_0), none, some (.int x_2), some (.int (x_3 ||| (1 <<< (x_4 &&& 31)))), some (.int x_4)]) dX5_leaders_28 (by decide) rfl ?_
      refine m_iinc (v := x_4 + 1) (ls2 := [some (.long y_0), none, some (.int x_2), some (.int (x_3 ||| (1 <<< (x_4 &&& 31)))), some (.int (x_4 + 1))]) dX5_leaders_29 (by decide) rfl (congrArg (_ + ·) ki_1) rfl ?_
      refine m_goto 5 dX5_leaders_32 (by decide) ?_
      exact hF
theorem en_X5_leaders {d : Nat} {y_0 : Int64} {x_2 : Int32} {h : mH} {K : Option Value → mH → Prop} (hk : Wm (d + 1) (0, 0) JX5_leaders 0 [some (.long y_0), none, some (.int x_2), none, none] [] h (fun r h' => h'.1 0 = h.1 0 ∧ K r h')) : Ev (d + 1) (0, 0) MX5_leaders [.long y_0, .int x_2] h K :=
  m_met pn_X5 nl_X5 (fun _ => Nat.le_of_ble_eq_true rfl) hk
theorem bk_X5_groups_0 {d : Nat} (y_0 : Int64) (x_2 : Int32) {h : mH} {Q : Option Value → mH → Prop} (hF : Ev d (0, 0) MX5_leaders [.long y_0, .int x_2] h (fun r1 h2 => ∃ x3 : Int32, r1 = some (.int x3) ∧ Ev d (0, 0) MJ6_bitCount_0f7a4 [.int x3] h2 (fun r4 h5 => ∃ x6 : Int32, r4 = some (.int x6) ∧ Q (some (.int x6)) h5))) : Wm (d + 1) (0, 0) JX5_groups 0 [some (.long y_0), none, some (.int x_2)] [] h Q := by
  refine m_lload_n dX5_groups_0 rfl ?_
  refine m_iload_n dX5_groups_1 rfl ?_
  refine m_static (as := [.long y_0, .int x_2]) (rest := []) cs_X5_38 dX5_groups_2 rfl rfl (Nat.le_of_ble_eq_true rfl) (Nat.le_of_eq (Nat.zero_add _)) (Nat.le_of_eq (Nat.zero_add _)) (b1 := (0, 0)) (b2 := (0, 0)) (Ev.mono hF ?_)
  intro r1 h2 hF
  obtain ⟨x3, rfl, hF⟩ := hF
  refine m_static (as := [.int x3]) (rest := []) cs_X5_41 dX5_groups_5 rfl rfl (Nat.le_of_ble_eq_true rfl) (Nat.le_of_eq (Nat.zero_add _)) (Nat.le_of_eq (Nat.zero_add _)) (b1 := (0, 0)) (b2 := (0, 0)) (Ev.mono hF ?_)
  intro r4 h5 hF
  obtain ⟨x6, rfl, hF⟩ := hF
  exact m_ireturn dX5_groups_8 trivial hF
theorem en_X5_groups {d : Nat} {y_0 : Int64} {x_2 : Int32} {h : mH} {K : Option Value → mH → Prop} (hk : Wm (d + 1) (0, 0) JX5_groups 0 [some (.long y_0), none, some (.int x_2)] [] h (fun r h' => h'.1 0 = h.1 0 ∧ K r h')) : Ev (d + 1) (0, 0) MX5_groups [.long y_0, .int x_2] h K :=
  m_met pn_X5 nl_X5 (fun _ => Nat.le_of_ble_eq_true rfl) hk
theorem bk_X5_withFirst_0 {d : Nat} (y_0 : Int64) (x_2 : Int32) {h : mH} {Q : Option Value → mH → Prop} (hF : Wm (d + 1) (0, 0) JX5_withFirst 5 [some (.long y_0), none, some (.int x_2), some (.int 0), some (.int 0)] [] h Q) : Wm (d + 1) (0, 0) JX5_withFirst 0 [some (.long y_0), none, some (.int x_2), none, none] [] h Q := by
  refine m_iconst dX5_withFirst_0 ki_0 ?_
  refine m_istore_n (ls2 := [some (.long y_0), none, some (.int x_2), some (.int 0), none]) dX5_withFirst_1 (by decide) rfl ?_
  refine m_iconst dX5_withFirst_2 ki_0 ?_
  refine m_istore (ls2 := [some (.long y_0), none, some (.int x_2), some (.int 0), some (.int 0)]) dX5_withFirst_3 (by decide) rfl ?_
  exact hF
theorem bk_X5_withFirst_5 {d : Nat} (y_0 : Int64) (x_2 : Int32) (x_3 : Int32) (x_4 : Int32) {h : mH} {Q : Option Value → mH → Prop} (hF : ((x_2 ≤ x_4 → Q (some (.int x_3)) h) ∧ (¬ (x_2 ≤ x_4) → Ev d (0, 0) MX5_at [.long y_0, .int x_4] h (fun r1 h2 => ∃ x3 : Int32, r1 = some (.int x3) ∧ ((¬ x3 = 0 → Wm (d + 1) (0, 0) JX5_withFirst 5 [some (.long y_0), none, some (.int x_2), some (.int x_3), some (.int (x_4 + 1))] [] h2 Q) ∧ (x3 = 0 → Wm (d + 1) (0, 0) JX5_withFirst 5 [some (.long y_0), none, some (.int x_2), some (.int (x_3 + 1)), some (.int (x_4 + 1))] [] h2 Q)))))) : Wm (d + 1) (0, 0) JX5_withFirst 5 [some (.long y_0), none, some (.int x_2), some (.int x_3), some (.int x_4)] [] h Q := by
  refine m_iload dX5_withFirst_5 rfl ?_
  refine m_iload_n dX5_withFirst_7 rfl ?_
  refine m_icmp_ge 29 dX5_withFirst_8 (by decide) (fun c => ?_) (fun c => ?_)
  · replace hF := hF.1 c
    refine m_iload_n dX5_withFirst_29 rfl ?_
    exact m_ireturn dX5_withFirst_30 trivial hF
  · replace hF := hF.2 c
    refine m_lload_n dX5_withFirst_11 rfl ?_
    refine m_iload dX5_withFirst_12 rfl ?_
    refine m_static (as := [.long y_0, .int x_4]) (rest := []) cs_X5_13 dX5_withFirst_14 rfl rfl (Nat.le_of_ble_eq_true rfl) (Nat.le_of_eq (Nat.zero_add _)) (Nat.le_of_eq (Nat.zero_add _)) (b1 := (0, 0)) (b2 := (0, 0)) (Ev.mono hF ?_)
    intro r1 h2 hF
    obtain ⟨x3, rfl, hF⟩ := hF
    refine m_if_ne 23 dX5_withFirst_17 (by decide) (fun c => ?_) (fun c => ?_)
    · replace hF := hF.1 c
      refine m_iinc (v := x_4 + 1) (ls2 := [some (.long y_0), none, some (.int x_2), some (.int x_3), some (.int (x_4 + 1))]) dX5_withFirst_23 (by decide) rfl (congrArg (_ + ·) ki_1) rfl ?_
      refine m_goto 5 dX5_withFirst_26 (by decide) ?_
      exact hF
    · replace hF := hF.2 c
      refine m_iinc (v := x_3 + 1) (ls2 := [some (.long y_0), none, some (.int x_2), some (.int (x_3 + 1)), some (.int x_4)]) dX5_withFirst_20 (by decide) rfl (congrArg (_ + ·) ki_1) rfl ?_
      refine m_iinc (v := x_4 + 1) (ls2 := [some (.long y_0), none, some (.int x_2), some (.int (x_3 + 1)), some (.int (x_4 + 1))]) dX5_withFirst_23 (by decide) rfl (congrArg (_ + ·) ki_1) rfl ?_
      refine m_goto 5 dX5_withFirst_26 (by decide) ?_
      exact hF
theorem en_X5_withFirst {d : Nat} {y_0 : Int64} {x_2 : Int32} {h : mH} {K : Option Value → mH → Prop} (hk : Wm (d + 1) (0, 0) JX5_withFirst 0 [some (.long y_0), none, some (.int x_2), none, none] [] h (fun r h' => h'.1 0 = h.1 0 ∧ K r h')) : Ev (d + 1) (0, 0) MX5_withFirst [.long y_0, .int x_2] h K :=
  m_met pn_X5 nl_X5 (fun _ => Nat.le_of_ble_eq_true rfl) hk
theorem bk_X5_leadForward_0 {d : Nat} (r_0 : Nat) (x_1 : Int32) (x_2 : Int32) {h : mH} {Q : Option Value → mH → Prop} (hF : ((x_1 < 0 → Q none h) ∧ (¬ (x_1 < 0) → (∃ n1 : Nat, m_len h r_0 = some n1 ∧ ((x_1 < ((nI n1) - 1) → (∃ y2 : Int64, m_ll h r_0 x_1 = some y2 ∧ (∃ y3 : Int64, m_ll h r_0 (x_1 + 1) = some y3 ∧ (∃ h4 : mH, m_ls h r_0 x_1 y3 = some h4 ∧ Ev d (0, 0) MX5_inverse [.long y3, .int x_2] h4 (fun r5 h6 => ∃ y7 : Int64, r5 = some (.long y7) ∧ Ev d (0, 0) MX5_behind [.long y7, .long y2, .int x_2] h6 (fun r8 h9 => ∃ y10 : Int64, r8 = some (.long y10) ∧ Ev d (0, 0) MX5_behind [.long y10, .long y3, .int x_2] h9 (fun r11 h12 => ∃ y13 : Int64, r11 = some (.long y13) ∧ (∃ h14 : mH, m_ls h12 r_0 (x_1 + 1) y13 = some h14 ∧ Q none h14)))))))) ∧ (¬ (x_1 < ((nI n1) - 1)) → Q none h)))))) : Wm (d + 1) (0, 0) JX5_leadForward 0 [some (.ref r_0), some (.int x_1), some (.int x_2), none, none, none, none] [] h Q := by
  refine m_iload_n dX5_leadForward_0 rfl ?_
  refine m_if_lt 12 dX5_leadForward_1 (by decide) (fun c => ?_) (fun c => ?_)
  · replace hF := hF.1 c
    exact m_return dX5_leadForward_12 trivial hF
  · replace hF := hF.2 c
    refine m_iload_n dX5_leadForward_4 rfl ?_
    refine m_aload_n dX5_leadForward_5 rfl ?_
    obtain ⟨n1, e, hF⟩ := hF
    refine m_alen dX5_leadForward_6 e ?_
    refine m_iconst dX5_leadForward_7 ki_1 ?_
    refine m_isub dX5_leadForward_8 ?_
    refine m_icmp_lt 13 dX5_leadForward_9 (by decide) (fun c => ?_) (fun c => ?_)
    · replace hF := hF.1 c
      refine m_aload_n dX5_leadForward_13 rfl ?_
      refine m_iload_n dX5_leadForward_14 rfl ?_
      obtain ⟨y2, e, hF⟩ := hF
      refine m_lald dX5_leadForward_15 e ?_
      refine m_lstore_n (ls2 := [some (.ref r_0), some (.int x_1), some (.int x_2), some (.long y2), none, none, none]) dX5_leadForward_16 (by decide) rfl ?_
      refine m_aload_n dX5_leadForward_17 rfl ?_
      refine m_iload_n dX5_leadForward_18 rfl ?_
      refine m_iconst dX5_leadForward_19 ki_1 ?_
      refine m_iadd dX5_leadForward_20 ?_
      obtain ⟨y3, e, hF⟩ := hF
      refine m_lald dX5_leadForward_21 e ?_
      refine m_lstore (ls2 := [some (.ref r_0), some (.int x_1), some (.int x_2), some (.long y2), none, some (.long y3), none]) dX5_leadForward_22 (by decide) rfl ?_
      refine m_aload_n dX5_leadForward_24 rfl ?_
      refine m_iload_n dX5_leadForward_25 rfl ?_
      refine m_lload dX5_leadForward_26 rfl ?_
      obtain ⟨h4, e, hF⟩ := hF
      refine m_last dX5_leadForward_28 e ?_
      refine m_aload_n dX5_leadForward_29 rfl ?_
      refine m_iload_n dX5_leadForward_30 rfl ?_
      refine m_iconst dX5_leadForward_31 ki_1 ?_
      refine m_iadd dX5_leadForward_32 ?_
      refine m_lload dX5_leadForward_33 rfl ?_
      refine m_iload_n dX5_leadForward_35 rfl ?_
      refine m_static (as := [.long y3, .int x_2]) (rest := [.int (x_1 + 1), .ref r_0]) cs_X5_47 dX5_leadForward_36 rfl rfl (Nat.le_of_ble_eq_true rfl) (Nat.le_of_eq (Nat.zero_add _)) (Nat.le_of_eq (Nat.zero_add _)) (b1 := (0, 0)) (b2 := (0, 0)) (Ev.mono hF ?_)
      intro r5 h6 hF
      obtain ⟨y7, rfl, hF⟩ := hF
      refine m_lload_n dX5_leadForward_39 rfl ?_
      refine m_iload_n dX5_leadForward_40 rfl ?_
      refine m_static (as := [.long y7, .long y2, .int x_2]) (rest := [.int (x_1 + 1), .ref r_0]) cs_X5_51 dX5_leadForward_41 rfl rfl (Nat.le_of_ble_eq_true rfl) (Nat.le_of_eq (Nat.zero_add _)) (Nat.le_of_eq (Nat.zero_add _)) (b1 := (0, 0)) (b2 := (0, 0)) (Ev.mono hF ?_)
      intro r8 h9 hF
      obtain ⟨y10, rfl, hF⟩ := hF
      refine m_lload dX5_leadForward_44 rfl ?_
      refine m_iload_n dX5_leadForward_46 rfl ?_
      refine m_static (as := [.long y10, .long y3, .int x_2]) (rest := [.int (x_1 + 1), .ref r_0]) cs_X5_51 dX5_leadForward_47 rfl rfl (Nat.le_of_ble_eq_true rfl) (Nat.le_of_eq (Nat.zero_add _)) (Nat.le_of_eq (Nat.zero_add _)) (b1 := (0, 0)) (b2 := (0, 0)) (Ev.mono hF ?_)
      intro r11 h12 hF
      obtain ⟨y13, rfl, hF⟩ := hF
      obtain ⟨h14, e, hF⟩ := hF
      refine m_last dX5_leadForward_50 e ?_
      exact m_return dX5_leadForward_51 trivial hF
    · replace hF := hF.2 c
      exact m_return dX5_leadForward_12 trivial hF
theorem en_X5_leadForward {d : Nat} {r_0 : Nat} {x_1 : Int32} {x_2 : Int32} {h : mH} {K : Option Value → mH → Prop} (hk : Wm (d + 1) (0, 0) JX5_leadForward 0 [some (.ref r_0), some (.int x_1), some (.int x_2), none, none, none, none] [] h (fun r h' => h'.1 0 = h.1 0 ∧ K r h')) : Ev (d + 1) (0, 0) MX5_leadForward [.ref r_0, .int x_1, .int x_2] h K :=
  m_met pn_X5 nl_X5 (fun _ => Nat.le_of_ble_eq_true rfl) hk
theorem bk_X5_leadBack_0 {d : Nat} (r_0 : Nat) (x_1 : Int32) (x_2 : Int32) {h : mH} {Q : Option Value → mH → Prop} (hF : ((x_1 < 0 → Q none h) ∧ (¬ (x_1 < 0) → (∃ n1 : Nat, m_len h r_0 = some n1 ∧ ((x_1 < ((nI n1) - 1) → (∃ y2 : Int64, m_ll h r_0 x_1 = some y2 ∧ (∃ y3 : Int64, m_ll h r_0 (x_1 + 1) = some y3 ∧ (∃ h4 : mH, m_ls h r_0 (x_1 + 1) y2 = some h4 ∧ Ev d (0, 0) MX5_behind [.long y2, .long y3, .int x_2] h4 (fun r5 h6 => ∃ y7 : Int64, r5 = some (.long y7) ∧ Ev d (0, 0) MX5_inverse [.long y2, .int x_2] h6 (fun r8 h9 => ∃ y10 : Int64, r8 = some (.long y10) ∧ Ev d (0, 0) MX5_behind [.long y7, .long y10, .int x_2] h9 (fun r11 h12 => ∃ y13 : Int64, r11 = some (.long y13) ∧ (∃ h14 : mH, m_ls h12 r_0 x_1 y13 = some h14 ∧ Q none h14)))))))) ∧ (¬ (x_1 < ((nI n1) - 1)) → Q none h)))))) : Wm (d + 1) (0, 0) JX5_leadBack 0 [some (.ref r_0), some (.int x_1), some (.int x_2), none, none, none, none] [] h Q := by
  refine m_iload_n dX5_leadBack_0 rfl ?_
  refine m_if_lt 12 dX5_leadBack_1 (by decide) (fun c => ?_) (fun c => ?_)
  · replace hF := hF.1 c
    exact m_return dX5_leadBack_12 trivial hF
  · replace hF := hF.2 c
    refine m_iload_n dX5_leadBack_4 rfl ?_
    refine m_aload_n dX5_leadBack_5 rfl ?_
    obtain ⟨n1, e, hF⟩ := hF
    refine m_alen dX5_leadBack_6 e ?_
    refine m_iconst dX5_leadBack_7 ki_1 ?_
    refine m_isub dX5_leadBack_8 ?_
    refine m_icmp_lt 13 dX5_leadBack_9 (by decide) (fun c => ?_) (fun c => ?_)
    · replace hF := hF.1 c
      refine m_aload_n dX5_leadBack_13 rfl ?_
      refine m_iload_n dX5_leadBack_14 rfl ?_
      obtain ⟨y2, e, hF⟩ := hF
      refine m_lald dX5_leadBack_15 e ?_
      refine m_lstore_n (ls2 := [some (.ref r_0), some (.int x_1), some (.int x_2), some (.long y2), none, none, none]) dX5_leadBack_16 (by decide) rfl ?_
      refine m_aload_n dX5_leadBack_17 rfl ?_
      refine m_iload_n dX5_leadBack_18 rfl ?_
      refine m_iconst dX5_leadBack_19 ki_1 ?_
      refine m_iadd dX5_leadBack_20 ?_
      obtain ⟨y3, e, hF⟩ := hF
      refine m_lald dX5_leadBack_21 e ?_
      refine m_lstore (ls2 := [some (.ref r_0), some (.int x_1), some (.int x_2), some (.long y2), none, some (.long y3), none]) dX5_leadBack_22 (by decide) rfl ?_
      refine m_aload_n dX5_leadBack_24 rfl ?_
      refine m_iload_n dX5_leadBack_25 rfl ?_
      refine m_iconst dX5_leadBack_26 ki_1 ?_
      refine m_iadd dX5_leadBack_27 ?_
      refine m_lload_n dX5_leadBack_28 rfl ?_
      obtain ⟨h4, e, hF⟩ := hF
      refine m_last dX5_leadBack_29 e ?_
      refine m_aload_n dX5_leadBack_30 rfl ?_
      refine m_iload_n dX5_leadBack_31 rfl ?_
      refine m_lload_n dX5_leadBack_32 rfl ?_
      refine m_lload dX5_leadBack_33 rfl ?_
      refine m_iload_n dX5_leadBack_35 rfl ?_
      refine m_static (as := [.long y2, .long y3, .int x_2]) (rest := [.int x_1, .ref r_0]) cs_X5_51 dX5_leadBack_36 rfl rfl (Nat.le_of_ble_eq_true rfl) (Nat.le_of_eq (Nat.zero_add _)) (Nat.le_of_eq (Nat.zero_add _)) (b1 := (0, 0)) (b2 := (0, 0)) (Ev.mono hF ?_)
      intro r5 h6 hF
      obtain ⟨y7, rfl, hF⟩ := hF
      refine m_lload_n dX5_leadBack_39 rfl ?_
      refine m_iload_n dX5_leadBack_40 rfl ?_
      refine m_static (as := [.long y2, .int x_2]) (rest := [.long y7, .int x_1, .ref r_0]) cs_X5_47 dX5_leadBack_41 rfl rfl (Nat.le_of_ble_eq_true rfl) (Nat.le_of_eq (Nat.zero_add _)) (Nat.le_of_eq (Nat.zero_add _)) (b1 := (0, 0)) (b2 := (0, 0)) (Ev.mono hF ?_)
      intro r8 h9 hF
      obtain ⟨y10, rfl, hF⟩ := hF
      refine m_iload_n dX5_leadBack_44 rfl ?_
      refine m_static (as := [.long y7, .long y10, .int x_2]) (rest := [.int x_1, .ref r_0]) cs_X5_51 dX5_leadBack_45 rfl rfl (Nat.le_of_ble_eq_true rfl) (Nat.le_of_eq (Nat.zero_add _)) (Nat.le_of_eq (Nat.zero_add _)) (b1 := (0, 0)) (b2 := (0, 0)) (Ev.mono hF ?_)
      intro r11 h12 hF
      obtain ⟨y13, rfl, hF⟩ := hF
      obtain ⟨h14, e, hF⟩ := hF
      refine m_last dX5_leadBack_48 e ?_
      exact m_return dX5_leadBack_49 trivial hF
    · replace hF := hF.2 c
      exact m_return dX5_leadBack_12 trivial hF
theorem en_X5_leadBack {d : Nat} {r_0 : Nat} {x_1 : Int32} {x_2 : Int32} {h : mH} {K : Option Value → mH → Prop} (hk : Wm (d + 1) (0, 0) JX5_leadBack 0 [some (.ref r_0), some (.int x_1), some (.int x_2), none, none, none, none] [] h (fun r h' => h'.1 0 = h.1 0 ∧ K r h')) : Ev (d + 1) (0, 0) MX5_leadBack [.ref r_0, .int x_1, .int x_2] h K :=
  m_met pn_X5 nl_X5 (fun _ => Nat.le_of_ble_eq_true rfl) hk

set_option maxRecDepth 100000 in
theorem bk_X12_init_0 {d : Nat} {b : Nat × Nat} (r_0 : Nat) {h : mH} {Q : Option Value → mH → Prop} (hF : (∃ n1 : Nat, ¬ (8 : Int32) < 0 ∧ (8 : Int32).toNatClampNeg = n1 ∧ n1 ≤ 100000 ∧ 1 ≤ b.1 ∧ n1 ≤ b.2 ∧ ∀ h2 : mH, h2 = (m_up h.1 h.2 (.inl (0, n1, .inl fun _ => 0)), h.2 + 1) → (∃ h3 : mH, m_is h2 h.2 0 (-1) = some h3 ∧ (∃ h4 : mH, m_is h3 h.2 1 (-1) = some h4 ∧ (∃ h5 : mH, m_is h4 h.2 2 (-1) = some h5 ∧ (∃ h6 : mH, m_is h5 h.2 3 (-1) = some h6 ∧ (∃ h7 : mH, m_is h6 h.2 4 (-1) = some h7 ∧ (∃ h8 : mH, m_is h7 h.2 5 (-1) = some h8 ∧ (∃ h9 : mH, m_is h8 h.2 6 (-1) = some h9 ∧ (∃ h10 : mH, m_is h9 h.2 7 (-1) = some h10 ∧ (∃ h11 : mH, m_put h10 r_0 11 2 (.ref h.2) = some h11 ∧ (∃ n12 : Nat, ¬ (8 : Int32) < 0 ∧ (8 : Int32).toNatClampNeg = n12 ∧ n12 ≤ 100000 ∧ 1 ≤ b.1 - 1 ∧ n12 ≤ b.2 - n1 ∧ ∀ h13 : mH, h13 = (m_up h11.1 h11.2 (.inl (0, n12, .inl fun _ => 0)), h11.2 + 1) → (∃ h14 : mH, m_put h13 r_0 11 3 (.ref h11.2) = some h14 ∧ (∃ n15 : Nat, ¬ (768 : Int32) < 0 ∧ (768 : Int32).toNatClampNeg = n15 ∧ n15 ≤ 100000 ∧ 1 ≤ b.1 - 1 - 1 ∧ n15 ≤ b.2 - n1 - n12 ∧ ∀ h16 : mH, h16 = (m_up h14.1 h14.2 (.inl (0, n15, .inl fun _ => 0)), h14.2 + 1) → (∃ h17 : mH, m_put h16 r_0 11 4 (.ref h14.2) = some h17 ∧ (∃ n18 : Nat, ¬ (13 : Int32) < 0 ∧ (13 : Int32).toNatClampNeg = n18 ∧ n18 ≤ 100000 ∧ 1 ≤ b.1 - 1 - 1 - 1 ∧ n18 ≤ b.2 - n1 - n12 - n15 ∧ ∀ h19 : mH, h19 = (m_up h17.1 h17.2 (.inl (0, n18, .inl fun _ => 0)), h17.2 + 1) → (∃ h20 : mH, m_put h19 r_0 11 5 (.ref h17.2) = some h20 ∧ (∃ n21 : Nat, ¬ (13 : Int32) < 0 ∧ (13 : Int32).toNatClampNeg = n21 ∧ n21 ≤ 100000 ∧ 1 ≤ b.1 - 1 - 1 - 1 - 1 ∧ n21 ≤ b.2 - n1 - n12 - n15 - n18 ∧ ∀ h22 : mH, h22 = (m_up h20.1 h20.2 (.inl (0, n21, .inl fun _ => 0)), h20.2 + 1) → (∃ h23 : mH, m_put h22 r_0 11 6 (.ref h20.2) = some h23 ∧ (∃ n24 : Nat, ¬ (1248 : Int32) < 0 ∧ (1248 : Int32).toNatClampNeg = n24 ∧ n24 ≤ 100000 ∧ 1 ≤ b.1 - 1 - 1 - 1 - 1 - 1 ∧ n24 ≤ b.2 - n1 - n12 - n15 - n18 - n21 ∧ ∀ h25 : mH, h25 = (m_up h23.1 h23.2 (.inl (0, n24, .inl fun _ => 0)), h23.2 + 1) → (∃ h26 : mH, m_put h25 r_0 11 7 (.ref h23.2) = some h26 ∧ (∃ n27 : Nat, ¬ (12 : Int32) < 0 ∧ (12 : Int32).toNatClampNeg = n27 ∧ n27 ≤ 100000 ∧ 1 ≤ b.1 - 1 - 1 - 1 - 1 - 1 - 1 ∧ n27 ≤ b.2 - n1 - n12 - n15 - n18 - n21 - n24 ∧ ∀ h28 : mH, h28 = (m_up h26.1 h26.2 (.inl (2, n27, .inl fun _ => 0)), h26.2 + 1) → (∃ h29 : mH, m_put h28 r_0 11 8 (.ref h26.2) = some h29 ∧ (∃ n30 : Nat, ¬ (12 : Int32) < 0 ∧ (12 : Int32).toNatClampNeg = n30 ∧ n30 ≤ 100000 ∧ 1 ≤ b.1 - 1 - 1 - 1 - 1 - 1 - 1 - 1 ∧ n30 ≤ b.2 - n1 - n12 - n15 - n18 - n21 - n24 - n27 ∧ ∀ h31 : mH, h31 = (m_up h29.1 h29.2 (.inl (0, n30, .inl fun _ => 0)), h29.2 + 1) → (∃ h32 : mH, m_put h31 r_0 11 9 (.ref h29.2) = some h32 ∧ (∃ n33 : Nat, ¬ (12 : Int32) < 0 ∧ (12 : Int32).toNatClampNeg = n33 ∧ n33 ≤ 100000 ∧ 1 ≤ b.1 - 1 - 1 - 1 - 1 - 1 - 1 - 1 - 1 ∧ n33 ≤ b.2 - n1 - n12 - n15 - n18 - n21 - n24 - n27 - n30 ∧ ∀ h34 : mH, h34 = (m_up h32.1 h32.2 (.inl (0, n33, .inl fun _ => 0)), h32.2 + 1) → (∃ h35 : mH, m_put h34 r_0 11 10 (.ref h32.2) = some h35 ∧ (∃ n36 : Nat, ¬ (12 : Int32) < 0 ∧ (12 : Int32).toNatClampNeg = n36 ∧ n36 ≤ 100000 ∧ 1 ≤ b.1 - 1 - 1 - 1 - 1 - 1 - 1 - 1 - 1 - 1 ∧ n36 ≤ b.2 - n1 - n12 - n15 - n18 - n21 - n24 - n27 - n30 - n33 ∧ ∀ h37 : mH, h37 = (m_up h35.1 h35.2 (.inl (0, n36, .inl fun _ => 0)), h35.2 + 1) → (∃ h38 : mH, m_put h37 r_0 11 11 (.ref h35.2) = some h38 ∧ (∃ n39 : Nat, ¬ (12 : Int32) < 0 ∧ (12 : Int32).toNatClampNeg = n39 ∧ n39 ≤ 100000 ∧ 1 ≤ b.1 - 1 - 1 - 1 - 1 - 1 - 1 - 1 - 1 - 1 - 1 ∧ n39 ≤ b.2 - n1 - n12 - n15 - n18 - n21 - n24 - n27 - n30 - n33 - n36 ∧ ∀ h40 : mH, h40 = (m_up h38.1 h38.2 (.inl (0, n39, .inl fun _ => 0)), h38.2 + 1) → (∃ h41 : mH, m_put h40 r_0 11 12 (.ref h38.2) = some h41 ∧ (∃ n42 : Nat, ¬ (12 : Int32) < 0 ∧ (12 : Int32).toNatClampNeg = n42 ∧ n42 ≤ 100000 ∧ 1 ≤ b.1 - 1 - 1 - 1 - 1 - 1 - 1 - 1 - 1 - 1 - 1 - 1 ∧ n42 ≤ b.2 - n1 - n12 - n15 - n18 - n21 - n24 - n27 - n30 - n33 - n36 - n39 ∧ ∀ h43 : mH, h43 = (m_up h41.1 h41.2 (.inl (0, n42, .inl fun _ => 0)), h41.2 + 1) → (∃ h44 : mH, m_put h43 r_0 11 13 (.ref h41.2) = some h44 ∧ (∃ n45 : Nat, ¬ (144 : Int32) < 0 ∧ (144 : Int32).toNatClampNeg = n45 ∧ n45 ≤ 100000 ∧ 1 ≤ b.1 - 1 - 1 - 1 - 1 - 1 - 1 - 1 - 1 - 1 - 1 - 1 - 1 ∧ n45 ≤ b.2 - n1 - n12 - n15 - n18 - n21 - n24 - n27 - n30 - n33 - n36 - n39 - n42 ∧ ∀ h46 : mH, h46 = (m_up h44.1 h44.2 (.inl (2, n45, .inl fun _ => 0)), h44.2 + 1) → (∃ h47 : mH, m_put h46 r_0 11 14 (.ref h44.2) = some h47 ∧ (∃ n48 : Nat, ¬ (1728 : Int32) < 0 ∧ (1728 : Int32).toNatClampNeg = n48 ∧ n48 ≤ 100000 ∧ 1 ≤ b.1 - 1 - 1 - 1 - 1 - 1 - 1 - 1 - 1 - 1 - 1 - 1 - 1 - 1 ∧ n48 ≤ b.2 - n1 - n12 - n15 - n18 - n21 - n24 - n27 - n30 - n33 - n36 - n39 - n42 - n45 ∧ ∀ h49 : mH, h49 = (m_up h47.1 h47.2 (.inl (0, n48, .inl fun _ => 0)), h47.2 + 1) → (∃ h50 : mH, m_put h49 r_0 11 15 (.ref h47.2) = some h50 ∧ (∃ n51 : Nat, ¬ (12 : Int32) < 0 ∧ (12 : Int32).toNatClampNeg = n51 ∧ n51 ≤ 100000 ∧ 1 ≤ b.1 - 1 - 1 - 1 - 1 - 1 - 1 - 1 - 1 - 1 - 1 - 1 - 1 - 1 - 1 ∧ n51 ≤ b.2 - n1 - n12 - n15 - n18 - n21 - n24 - n27 - n30 - n33 - n36 - n39 - n42 - n45 - n48 ∧ ∀ h52 : mH, h52 = (m_up h50.1 h50.2 (.inl (0, n51, .inl fun _ => 0)), h50.2 + 1) → (∃ h53 : mH, m_put h52 r_0 11 16 (.ref h50.2) = some h53 ∧ (∃ n54 : Nat, ¬ (12 : Int32) < 0 ∧ (12 : Int32).toNatClampNeg = n54 ∧ n54 ≤ 100000 ∧ 1 ≤ b.1 - 1 - 1 - 1 - 1 - 1 - 1 - 1 - 1 - 1 - 1 - 1 - 1 - 1 - 1 - 1 ∧ n54 ≤ b.2 - n1 - n12 - n15 - n18 - n21 - n24 - n27 - n30 - n33 - n36 - n39 - n42 - n45 - n48 - n51 ∧ ∀ h55 : mH, h55 = (m_up h53.1 h53.2 (.inl (0, n54, .inl fun _ => 0)), h53.2 + 1) → (∃ h56 : mH, m_put h55 r_0 11 17 (.ref h53.2) = some h56 ∧ (∃ n57 : Nat, ¬ (28800 : Int32) < 0 ∧ (28800 : Int32).toNatClampNeg = n57 ∧ n57 ≤ 100000 ∧ 1 ≤ b.1 - 1 - 1 - 1 - 1 - 1 - 1 - 1 - 1 - 1 - 1 - 1 - 1 - 1 - 1 - 1 - 1 ∧ n57 ≤ b.2 - n1 - n12 - n15 - n18 - n21 - n24 - n27 - n30 - n33 - n36 - n39 - n42 - n45 - n48 - n51 - n54 ∧ ∀ h58 : mH, h58 = (m_up h56.1 h56.2 (.inl (0, n57, .inl fun _ => 0)), h56.2 + 1) → (∃ h59 : mH, m_put h58 r_0 11 18 (.ref h56.2) = some h59 ∧ (∃ n60 : Nat, ¬ (16 : Int32) < 0 ∧ (16 : Int32).toNatClampNeg = n60 ∧ n60 ≤ 100000 ∧ 1 ≤ b.1 - 1 - 1 - 1 - 1 - 1 - 1 - 1 - 1 - 1 - 1 - 1 - 1 - 1 - 1 - 1 - 1 - 1 ∧ n60 ≤ b.2 - n1 - n12 - n15 - n18 - n21 - n24 - n27 - n30 - n33 - n36 - n39 - n42 - n45 - n48 - n51 - n54 - n57 ∧ ∀ h61 : mH, h61 = (m_up h59.1 h59.2 (.inl (0, n60, .inl fun _ => 0)), h59.2 + 1) → (∃ h62 : mH, m_put h61 r_0 11 19 (.ref h59.2) = some h62 ∧ (∃ n63 : Nat, ¬ (430 : Int32) < 0 ∧ (430 : Int32).toNatClampNeg = n63 ∧ n63 ≤ 100000 ∧ 1 ≤ b.1 - 1 - 1 - 1 - 1 - 1 - 1 - 1 - 1 - 1 - 1 - 1 - 1 - 1 - 1 - 1 - 1 - 1 - 1 ∧ n63 ≤ b.2 - n1 - n12 - n15 - n18 - n21 - n24 - n27 - n30 - n33 - n36 - n39 - n42 - n45 - n48 - n51 - n54 - n57 - n60 ∧ ∀ h64 : mH, h64 = (m_up h62.1 h62.2 (.inl (0, n63, .inl fun _ => 0)), h62.2 + 1) → (∃ h65 : mH, m_put h64 r_0 11 22 (.ref h62.2) = some h65 ∧ (∃ n66 : Nat, ¬ (10 : Int32) < 0 ∧ (10 : Int32).toNatClampNeg = n66 ∧ n66 ≤ 100000 ∧ 1 ≤ b.1 - 1 - 1 - 1 - 1 - 1 - 1 - 1 - 1 - 1 - 1 - 1 - 1 - 1 - 1 - 1 - 1 - 1 - 1 - 1 ∧ n66 ≤ b.2 - n1 - n12 - n15 - n18 - n21 - n24 - n27 - n30 - n33 - n36 - n39 - n42 - n45 - n48 - n51 - n54 - n57 - n60 - n63 ∧ ∀ h67 : mH, h67 = (m_up h65.1 h65.2 (.inl (0, n66, .inl fun _ => 0)), h65.2 + 1) → (∃ h68 : mH, m_put h67 r_0 11 23 (.ref h65.2) = some h68 ∧ (∃ n69 : Nat, ¬ (43 : Int32) < 0 ∧ (43 : Int32).toNatClampNeg = n69 ∧ n69 ≤ 100000 ∧ 1 ≤ b.1 - 1 - 1 - 1 - 1 - 1 - 1 - 1 - 1 - 1 - 1 - 1 - 1 - 1 - 1 - 1 - 1 - 1 - 1 - 1 - 1 ∧ n69 ≤ b.2 - n1 - n12 - n15 - n18 - n21 - n24 - n27 - n30 - n33 - n36 - n39 - n42 - n45 - n48 - n51 - n54 - n57 - n60 - n63 - n66 ∧ ∀ h70 : mH, h70 = (m_up h68.1 h68.2 (.inl (1, n69, .inr (.inl fun _ => 0))), h68.2 + 1) → (∃ h71 : mH, m_put h70 r_0 11 24 (.ref h68.2) = some h71 ∧ (∃ n72 : Nat, ¬ (43 : Int32) < 0 ∧ (43 : Int32).toNatClampNeg = n72 ∧ n72 ≤ 100000 ∧ 1 ≤ b.1 - 1 - 1 - 1 - 1 - 1 - 1 - 1 - 1 - 1 - 1 - 1 - 1 - 1 - 1 - 1 - 1 - 1 - 1 - 1 - 1 - 1 ∧ n72 ≤ b.2 - n1 - n12 - n15 - n18 - n21 - n24 - n27 - n30 - n33 - n36 - n39 - n42 - n45 - n48 - n51 - n54 - n57 - n60 - n63 - n66 - n69 ∧ ∀ h73 : mH, h73 = (m_up h71.1 h71.2 (.inl (1, n72, .inr (.inl fun _ => 0))), h71.2 + 1) → (∃ h74 : mH, m_put h73 r_0 11 25 (.ref h71.2) = some h74 ∧ Q none h74))))))))))))))))))))))))))))))))))))))))))))))))))))) : Wm (d + 1) b JX12_init 0 [some (.ref r_0)] [] h Q := by
  refine m_aload_n dX12_init_0 rfl ?_
  refine m_objinit ol_X12_1 oi_1 oi_2 dX12_init_1 (Nat.le_of_ble_eq_true rfl) ?_
  refine m_aload_n dX12_init_4 rfl ?_
  refine m_bipush dX12_init_5 kb_8 ?_
  obtain ⟨n1, e1, e2, e3, e4, e5, hF⟩ := hF
  refine m_newarr (t := 0) (b2 := (b.1 - 1, b.2 - n1)) dX12_init_7 e1 e2 e3 (Or.inl ⟨rfl, rfl, rfl⟩) ac_int (Nat.le_of_eq (Nat.sub_add_cancel e4)) (Nat.le_of_eq (Nat.sub_add_cancel e5)) ?_
  replace hF := hF _ rfl
  generalize (m_up h.1 h.2 (.inl (0, n1, .inl fun _ => 0)), h.2 + 1) = h2 at hF ⊢
  refine m_dup dX12_init_9 rfl ?_
  refine m_iconst dX12_init_10 ki_0 ?_
  refine m_iconst dX12_init_11 ki_m1 ?_
  obtain ⟨h3, e, hF⟩ := hF
  refine m_iast dX12_init_12 e ?_
  refine m_dup dX12_init_13 rfl ?_
  refine m_iconst dX12_init_14 ki_1 ?_
  refine m_iconst dX12_init_15 ki_m1 ?_
  obtain ⟨h4, e, hF⟩ := hF
  refine m_iast dX12_init_16 e ?_
  refine m_dup dX12_init_17 rfl ?_
  refine m_iconst dX12_init_18 ki_2 ?_
  refine m_iconst dX12_init_19 ki_m1 ?_
  obtain ⟨h5, e, hF⟩ := hF
  refine m_iast dX12_init_20 e ?_
  refine m_dup dX12_init_21 rfl ?_
  refine m_iconst dX12_init_22 ki_3 ?_
  refine m_iconst dX12_init_23 ki_m1 ?_
  obtain ⟨h6, e, hF⟩ := hF
  refine m_iast dX12_init_24 e ?_
  refine m_dup dX12_init_25 rfl ?_
  refine m_iconst dX12_init_26 ki_4 ?_
  refine m_iconst dX12_init_27 ki_m1 ?_
  obtain ⟨h7, e, hF⟩ := hF
  refine m_iast dX12_init_28 e ?_
  refine m_dup dX12_init_29 rfl ?_
  refine m_iconst dX12_init_30 ki_5 ?_
  refine m_iconst dX12_init_31 ki_m1 ?_
  obtain ⟨h8, e, hF⟩ := hF
  refine m_iast dX12_init_32 e ?_
  refine m_dup dX12_init_33 rfl ?_
  refine m_bipush dX12_init_34 kb_6 ?_
  refine m_iconst dX12_init_36 ki_m1 ?_
  obtain ⟨h9, e, hF⟩ := hF
  refine m_iast dX12_init_37 e ?_
  refine m_dup dX12_init_38 rfl ?_
  refine m_bipush dX12_init_39 kb_7 ?_
  refine m_iconst dX12_init_41 ki_m1 ?_
  obtain ⟨h10, e, hF⟩ := hF
  refine m_iast dX12_init_42 e ?_
  obtain ⟨h11, e, hF⟩ := hF
  refine m_putfF fp_X12_7_11 rfl dX12_init_43 trivial e ?_
  refine m_aload_n dX12_init_46 rfl ?_
  refine m_bipush dX12_init_47 kb_8 ?_
  obtain ⟨n12, e1, e2, e3, e4, e5, hF⟩ := hF
  refine m_newarr (t := 0) (b2 := (b.1 - 1 - 1, b.2 - n1 - n12)) dX12_init_49 e1 e2 e3 (Or.inl ⟨rfl, rfl, rfl⟩) ac_int (Nat.le_of_eq (Nat.sub_add_cancel e4)) (Nat.le_of_eq (Nat.sub_add_cancel e5)) ?_
  replace hF := hF _ rfl
  generalize (m_up h11.1 h11.2 (.inl (0, n12, .inl fun _ => 0)), h11.2 + 1) = h13 at hF ⊢
  obtain ⟨h14, e, hF⟩ := hF
  refine m_putfF fp_X12_13_11 rfl dX12_init_51 trivial e ?_
  refine m_aload_n dX12_init_54 rfl ?_
  refine m_sipush dX12_init_55 ks_768 ?_
  obtain ⟨n15, e1, e2, e3, e4, e5, hF⟩ := hF
  refine m_newarr (t := 0) (b2 := (b.1 - 1 - 1 - 1, b.2 - n1 - n12 - n15)) dX12_init_58 e1 e2 e3 (Or.inl ⟨rfl, rfl, rfl⟩) ac_int (Nat.le_of_eq (Nat.sub_add_cancel e4)) (Nat.le_of_eq (Nat.sub_add_cancel e5)) ?_
  replace hF := hF _ rfl
  generalize (m_up h14.1 h14.2 (.inl (0, n15, .inl fun _ => 0)), h14.2 + 1) = h16 at hF ⊢
  obtain ⟨h17, e, hF⟩ := hF
  refine m_putfF fp_X12_16_11 rfl dX12_init_60 trivial e ?_
  refine m_aload_n dX12_init_63 rfl ?_
  refine m_bipush dX12_init_64 kb_13 ?_
  obtain ⟨n18, e1, e2, e3, e4, e5, hF⟩ := hF
  refine m_newarr (t := 0) (b2 := (b.1 - 1 - 1 - 1 - 1, b.2 - n1 - n12 - n15 - n18)) dX12_init_66 e1 e2 e3 (Or.inl ⟨rfl, rfl, rfl⟩) ac_int (Nat.le_of_eq (Nat.sub_add_cancel e4)) (Nat.le_of_eq (Nat.sub_add_cancel e5)) ?_
  replace hF := hF _ rfl
  generalize (m_up h17.1 h17.2 (.inl (0, n18, .inl fun _ => 0)), h17.2 + 1) = h19 at hF ⊢
  obtain ⟨h20, e, hF⟩ := hF
  refine m_putfF fp_X12_19_11 rfl dX12_init_68 trivial e ?_
  refine m_aload_n dX12_init_71 rfl ?_
  refine m_bipush dX12_init_72 kb_13 ?_
  obtain ⟨n21, e1, e2, e3, e4, e5, hF⟩ := hF
  refine m_newarr (t := 0) (b2 := (b.1 - 1 - 1 - 1 - 1 - 1, b.2 - n1 - n12 - n15 - n18 - n21)) dX12_init_74 e1 e2 e3 (Or.inl ⟨rfl, rfl, rfl⟩) ac_int (Nat.le_of_eq (Nat.sub_add_cancel e4)) (Nat.le_of_eq (Nat.sub_add_cancel e5)) ?_
  replace hF := hF _ rfl
  generalize (m_up h20.1 h20.2 (.inl (0, n21, .inl fun _ => 0)), h20.2 + 1) = h22 at hF ⊢
  obtain ⟨h23, e, hF⟩ := hF
  refine m_putfF fp_X12_22_11 rfl dX12_init_76 trivial e ?_
  refine m_aload_n dX12_init_79 rfl ?_
  refine m_sipush dX12_init_80 ks_1248 ?_
  obtain ⟨n24, e1, e2, e3, e4, e5, hF⟩ := hF
  refine m_newarr (t := 0) (b2 := (b.1 - 1 - 1 - 1 - 1 - 1 - 1, b.2 - n1 - n12 - n15 - n18 - n21 - n24)) dX12_init_83 e1 e2 e3 (Or.inl ⟨rfl, rfl, rfl⟩) ac_int (Nat.le_of_eq (Nat.sub_add_cancel e4)) (Nat.le_of_eq (Nat.sub_add_cancel e5)) ?_
  replace hF := hF _ rfl
  generalize (m_up h23.1 h23.2 (.inl (0, n24, .inl fun _ => 0)), h23.2 + 1) = h25 at hF ⊢
  obtain ⟨h26, e, hF⟩ := hF
  refine m_putfF fp_X12_25_11 rfl dX12_init_85 trivial e ?_
  refine m_aload_n dX12_init_88 rfl ?_
  refine m_bipush dX12_init_89 kb_12 ?_
  obtain ⟨n27, e1, e2, e3, e4, e5, hF⟩ := hF
  refine m_newarr (t := 2) (b2 := (b.1 - 1 - 1 - 1 - 1 - 1 - 1 - 1, b.2 - n1 - n12 - n15 - n18 - n21 - n24 - n27)) dX12_init_91 e1 e2 e3 (Or.inr (Or.inr ⟨rfl, rfl, rfl⟩)) ac_boolean (Nat.le_of_eq (Nat.sub_add_cancel e4)) (Nat.le_of_eq (Nat.sub_add_cancel e5)) ?_
  replace hF := hF _ rfl
  generalize (m_up h26.1 h26.2 (.inl (2, n27, .inl fun _ => 0)), h26.2 + 1) = h28 at hF ⊢
  obtain ⟨h29, e, hF⟩ := hF
  refine m_putfF fp_X12_28_11 rfl dX12_init_93 trivial e ?_
  refine m_aload_n dX12_init_96 rfl ?_
  refine m_bipush dX12_init_97 kb_12 ?_
  obtain ⟨n30, e1, e2, e3, e4, e5, hF⟩ := hF
  refine m_newarr (t := 0) (b2 := (b.1 - 1 - 1 - 1 - 1 - 1 - 1 - 1 - 1, b.2 - n1 - n12 - n15 - n18 - n21 - n24 - n27 - n30)) dX12_init_99 e1 e2 e3 (Or.inl ⟨rfl, rfl, rfl⟩) ac_int (Nat.le_of_eq (Nat.sub_add_cancel e4)) (Nat.le_of_eq (Nat.sub_add_cancel e5)) ?_
  replace hF := hF _ rfl
  generalize (m_up h29.1 h29.2 (.inl (0, n30, .inl fun _ => 0)), h29.2 + 1) = h31 at hF ⊢
  obtain ⟨h32, e, hF⟩ := hF
  refine m_putfF fp_X12_32_11 rfl dX12_init_101 trivial e ?_
  refine m_aload_n dX12_init_104 rfl ?_
  refine m_bipush dX12_init_105 kb_12 ?_
  obtain ⟨n33, e1, e2, e3, e4, e5, hF⟩ := hF
  refine m_newarr (t := 0) (b2 := (b.1 - 1 - 1 - 1 - 1 - 1 - 1 - 1 - 1 - 1, b.2 - n1 - n12 - n15 - n18 - n21 - n24 - n27 - n30 - n33)) dX12_init_107 e1 e2 e3 (Or.inl ⟨rfl, rfl, rfl⟩) ac_int (Nat.le_of_eq (Nat.sub_add_cancel e4)) (Nat.le_of_eq (Nat.sub_add_cancel e5)) ?_
  replace hF := hF _ rfl
  generalize (m_up h32.1 h32.2 (.inl (0, n33, .inl fun _ => 0)), h32.2 + 1) = h34 at hF ⊢
  obtain ⟨h35, e, hF⟩ := hF
  refine m_putfF fp_X12_35_11 rfl dX12_init_109 trivial e ?_
  refine m_aload_n dX12_init_112 rfl ?_
  refine m_bipush dX12_init_113 kb_12 ?_
  obtain ⟨n36, e1, e2, e3, e4, e5, hF⟩ := hF
  refine m_newarr (t := 0) (b2 := (b.1 - 1 - 1 - 1 - 1 - 1 - 1 - 1 - 1 - 1 - 1, b.2 - n1 - n12 - n15 - n18 - n21 - n24 - n27 - n30 - n33 - n36)) dX12_init_115 e1 e2 e3 (Or.inl ⟨rfl, rfl, rfl⟩) ac_int (Nat.le_of_eq (Nat.sub_add_cancel e4)) (Nat.le_of_eq (Nat.sub_add_cancel e5)) ?_
  replace hF := hF _ rfl
  generalize (m_up h35.1 h35.2 (.inl (0, n36, .inl fun _ => 0)), h35.2 + 1) = h37 at hF ⊢
  obtain ⟨h38, e, hF⟩ := hF
  refine m_putfF fp_X12_38_11 rfl dX12_init_117 trivial e ?_
  refine m_aload_n dX12_init_120 rfl ?_
  refine m_bipush dX12_init_121 kb_12 ?_
  obtain ⟨n39, e1, e2, e3, e4, e5, hF⟩ := hF
  refine m_newarr (t := 0) (b2 := (b.1 - 1 - 1 - 1 - 1 - 1 - 1 - 1 - 1 - 1 - 1 - 1, b.2 - n1 - n12 - n15 - n18 - n21 - n24 - n27 - n30 - n33 - n36 - n39)) dX12_init_123 e1 e2 e3 (Or.inl ⟨rfl, rfl, rfl⟩) ac_int (Nat.le_of_eq (Nat.sub_add_cancel e4)) (Nat.le_of_eq (Nat.sub_add_cancel e5)) ?_
  replace hF := hF _ rfl
  generalize (m_up h38.1 h38.2 (.inl (0, n39, .inl fun _ => 0)), h38.2 + 1) = h40 at hF ⊢
  obtain ⟨h41, e, hF⟩ := hF
  refine m_putfF fp_X12_41_11 rfl dX12_init_125 trivial e ?_
  refine m_aload_n dX12_init_128 rfl ?_
  refine m_bipush dX12_init_129 kb_12 ?_
  obtain ⟨n42, e1, e2, e3, e4, e5, hF⟩ := hF
  refine m_newarr (t := 0) (b2 := (b.1 - 1 - 1 - 1 - 1 - 1 - 1 - 1 - 1 - 1 - 1 - 1 - 1, b.2 - n1 - n12 - n15 - n18 - n21 - n24 - n27 - n30 - n33 - n36 - n39 - n42)) dX12_init_131 e1 e2 e3 (Or.inl ⟨rfl, rfl, rfl⟩) ac_int (Nat.le_of_eq (Nat.sub_add_cancel e4)) (Nat.le_of_eq (Nat.sub_add_cancel e5)) ?_
  replace hF := hF _ rfl
  generalize (m_up h41.1 h41.2 (.inl (0, n42, .inl fun _ => 0)), h41.2 + 1) = h43 at hF ⊢
  obtain ⟨h44, e, hF⟩ := hF
  refine m_putfF fp_X12_44_11 rfl dX12_init_133 trivial e ?_
  refine m_aload_n dX12_init_136 rfl ?_
  refine m_sipush dX12_init_137 ks_144 ?_
  obtain ⟨n45, e1, e2, e3, e4, e5, hF⟩ := hF
  refine m_newarr (t := 2) (b2 := (b.1 - 1 - 1 - 1 - 1 - 1 - 1 - 1 - 1 - 1 - 1 - 1 - 1 - 1, b.2 - n1 - n12 - n15 - n18 - n21 - n24 - n27 - n30 - n33 - n36 - n39 - n42 - n45)) dX12_init_140 e1 e2 e3 (Or.inr (Or.inr ⟨rfl, rfl, rfl⟩)) ac_boolean (Nat.le_of_eq (Nat.sub_add_cancel e4)) (Nat.le_of_eq (Nat.sub_add_cancel e5)) ?_
  replace hF := hF _ rfl
  generalize (m_up h44.1 h44.2 (.inl (2, n45, .inl fun _ => 0)), h44.2 + 1) = h46 at hF ⊢
  obtain ⟨h47, e, hF⟩ := hF
  refine m_putfF fp_X12_47_11 rfl dX12_init_142 trivial e ?_
  refine m_aload_n dX12_init_145 rfl ?_
  refine m_sipush dX12_init_146 ks_1728 ?_
  obtain ⟨n48, e1, e2, e3, e4, e5, hF⟩ := hF
  refine m_newarr (t := 0) (b2 := (b.1 - 1 - 1 - 1 - 1 - 1 - 1 - 1 - 1 - 1 - 1 - 1 - 1 - 1 - 1, b.2 - n1 - n12 - n15 - n18 - n21 - n24 - n27 - n30 - n33 - n36 - n39 - n42 - n45 - n48)) dX12_init_149 e1 e2 e3 (Or.inl ⟨rfl, rfl, rfl⟩) ac_int (Nat.le_of_eq (Nat.sub_add_cancel e4)) (Nat.le_of_eq (Nat.sub_add_cancel e5)) ?_
  replace hF := hF _ rfl
  generalize (m_up h47.1 h47.2 (.inl (0, n48, .inl fun _ => 0)), h47.2 + 1) = h49 at hF ⊢
  obtain ⟨h50, e, hF⟩ := hF
  refine m_putfF fp_X12_50_11 rfl dX12_init_151 trivial e ?_
  refine m_aload_n dX12_init_154 rfl ?_
  refine m_bipush dX12_init_155 kb_12 ?_
  obtain ⟨n51, e1, e2, e3, e4, e5, hF⟩ := hF
  refine m_newarr (t := 0) (b2 := (b.1 - 1 - 1 - 1 - 1 - 1 - 1 - 1 - 1 - 1 - 1 - 1 - 1 - 1 - 1 - 1, b.2 - n1 - n12 - n15 - n18 - n21 - n24 - n27 - n30 - n33 - n36 - n39 - n42 - n45 - n48 - n51)) dX12_init_157 e1 e2 e3 (Or.inl ⟨rfl, rfl, rfl⟩) ac_int (Nat.le_of_eq (Nat.sub_add_cancel e4)) (Nat.le_of_eq (Nat.sub_add_cancel e5)) ?_
  replace hF := hF _ rfl
  generalize (m_up h50.1 h50.2 (.inl (0, n51, .inl fun _ => 0)), h50.2 + 1) = h52 at hF ⊢
  obtain ⟨h53, e, hF⟩ := hF
  refine m_putfF fp_X12_53_11 rfl dX12_init_159 trivial e ?_
  refine m_aload_n dX12_init_162 rfl ?_
  refine m_bipush dX12_init_163 kb_12 ?_
  obtain ⟨n54, e1, e2, e3, e4, e5, hF⟩ := hF
  refine m_newarr (t := 0) (b2 := (b.1 - 1 - 1 - 1 - 1 - 1 - 1 - 1 - 1 - 1 - 1 - 1 - 1 - 1 - 1 - 1 - 1, b.2 - n1 - n12 - n15 - n18 - n21 - n24 - n27 - n30 - n33 - n36 - n39 - n42 - n45 - n48 - n51 - n54)) dX12_init_165 e1 e2 e3 (Or.inl ⟨rfl, rfl, rfl⟩) ac_int (Nat.le_of_eq (Nat.sub_add_cancel e4)) (Nat.le_of_eq (Nat.sub_add_cancel e5)) ?_
  replace hF := hF _ rfl
  generalize (m_up h53.1 h53.2 (.inl (0, n54, .inl fun _ => 0)), h53.2 + 1) = h55 at hF ⊢
  obtain ⟨h56, e, hF⟩ := hF
  refine m_putfF fp_X12_56_11 rfl dX12_init_167 trivial e ?_
  refine m_aload_n dX12_init_170 rfl ?_
  refine m_sipush dX12_init_171 ks_28800 ?_
  obtain ⟨n57, e1, e2, e3, e4, e5, hF⟩ := hF
  refine m_newarr (t := 0) (b2 := (b.1 - 1 - 1 - 1 - 1 - 1 - 1 - 1 - 1 - 1 - 1 - 1 - 1 - 1 - 1 - 1 - 1 - 1, b.2 - n1 - n12 - n15 - n18 - n21 - n24 - n27 - n30 - n33 - n36 - n39 - n42 - n45 - n48 - n51 - n54 - n57)) dX12_init_174 e1 e2 e3 (Or.inl ⟨rfl, rfl, rfl⟩) ac_int (Nat.le_of_eq (Nat.sub_add_cancel e4)) (Nat.le_of_eq (Nat.sub_add_cancel e5)) ?_
  replace hF := hF _ rfl
  generalize (m_up h56.1 h56.2 (.inl (0, n57, .inl fun _ => 0)), h56.2 + 1) = h58 at hF ⊢
  obtain ⟨h59, e, hF⟩ := hF
  refine m_putfF fp_X12_59_11 rfl dX12_init_176 trivial e ?_
  refine m_aload_n dX12_init_179 rfl ?_
  refine m_bipush dX12_init_180 kb_16 ?_
  obtain ⟨n60, e1, e2, e3, e4, e5, hF⟩ := hF
  refine m_newarr (t := 0) (b2 := (b.1 - 1 - 1 - 1 - 1 - 1 - 1 - 1 - 1 - 1 - 1 - 1 - 1 - 1 - 1 - 1 - 1 - 1 - 1, b.2 - n1 - n12 - n15 - n18 - n21 - n24 - n27 - n30 - n33 - n36 - n39 - n42 - n45 - n48 - n51 - n54 - n57 - n60)) dX12_init_182 e1 e2 e3 (Or.inl ⟨rfl, rfl, rfl⟩) ac_int (Nat.le_of_eq (Nat.sub_add_cancel e4)) (Nat.le_of_eq (Nat.sub_add_cancel e5)) ?_
  replace hF := hF _ rfl
  generalize (m_up h59.1 h59.2 (.inl (0, n60, .inl fun _ => 0)), h59.2 + 1) = h61 at hF ⊢
  obtain ⟨h62, e, hF⟩ := hF
  refine m_putfF fp_X12_62_11 rfl dX12_init_184 trivial e ?_
  refine m_aload_n dX12_init_187 rfl ?_
  refine m_sipush dX12_init_188 ks_430 ?_
  obtain ⟨n63, e1, e2, e3, e4, e5, hF⟩ := hF
  refine m_newarr (t := 0) (b2 := (b.1 - 1 - 1 - 1 - 1 - 1 - 1 - 1 - 1 - 1 - 1 - 1 - 1 - 1 - 1 - 1 - 1 - 1 - 1 - 1, b.2 - n1 - n12 - n15 - n18 - n21 - n24 - n27 - n30 - n33 - n36 - n39 - n42 - n45 - n48 - n51 - n54 - n57 - n60 - n63)) dX12_init_191 e1 e2 e3 (Or.inl ⟨rfl, rfl, rfl⟩) ac_int (Nat.le_of_eq (Nat.sub_add_cancel e4)) (Nat.le_of_eq (Nat.sub_add_cancel e5)) ?_
  replace hF := hF _ rfl
  generalize (m_up h62.1 h62.2 (.inl (0, n63, .inl fun _ => 0)), h62.2 + 1) = h64 at hF ⊢
  obtain ⟨h65, e, hF⟩ := hF
  refine m_putfF fp_X12_65_11 rfl dX12_init_193 trivial e ?_
  refine m_aload_n dX12_init_196 rfl ?_
  refine m_bipush dX12_init_197 kb_10 ?_
  obtain ⟨n66, e1, e2, e3, e4, e5, hF⟩ := hF
  refine m_newarr (t := 0) (b2 := (b.1 - 1 - 1 - 1 - 1 - 1 - 1 - 1 - 1 - 1 - 1 - 1 - 1 - 1 - 1 - 1 - 1 - 1 - 1 - 1 - 1, b.2 - n1 - n12 - n15 - n18 - n21 - n24 - n27 - n30 - n33 - n36 - n39 - n42 - n45 - n48 - n51 - n54 - n57 - n60 - n63 - n66)) dX12_init_199 e1 e2 e3 (Or.inl ⟨rfl, rfl, rfl⟩) ac_int (Nat.le_of_eq (Nat.sub_add_cancel e4)) (Nat.le_of_eq (Nat.sub_add_cancel e5)) ?_
  replace hF := hF _ rfl
  generalize (m_up h65.1 h65.2 (.inl (0, n66, .inl fun _ => 0)), h65.2 + 1) = h67 at hF ⊢
  obtain ⟨h68, e, hF⟩ := hF
  refine m_putfF fp_X12_68_11 rfl dX12_init_201 trivial e ?_
  refine m_aload_n dX12_init_204 rfl ?_
  refine m_bipush dX12_init_205 kb_43 ?_
  obtain ⟨n69, e1, e2, e3, e4, e5, hF⟩ := hF
  refine m_newarr (t := 1) (b2 := (b.1 - 1 - 1 - 1 - 1 - 1 - 1 - 1 - 1 - 1 - 1 - 1 - 1 - 1 - 1 - 1 - 1 - 1 - 1 - 1 - 1 - 1, b.2 - n1 - n12 - n15 - n18 - n21 - n24 - n27 - n30 - n33 - n36 - n39 - n42 - n45 - n48 - n51 - n54 - n57 - n60 - n63 - n66 - n69)) dX12_init_207 e1 e2 e3 (Or.inr (Or.inl ⟨rfl, rfl, rfl⟩)) ac_long (Nat.le_of_eq (Nat.sub_add_cancel e4)) (Nat.le_of_eq (Nat.sub_add_cancel e5)) ?_
  replace hF := hF _ rfl
  generalize (m_up h68.1 h68.2 (.inl (1, n69, .inr (.inl fun _ => 0))), h68.2 + 1) = h70 at hF ⊢
  obtain ⟨h71, e, hF⟩ := hF
  refine m_putfF fp_X12_71_11 rfl dX12_init_209 trivial e ?_
  refine m_aload_n dX12_init_212 rfl ?_
  refine m_bipush dX12_init_213 kb_43 ?_
  obtain ⟨n72, e1, e2, e3, e4, e5, hF⟩ := hF
  refine m_newarr (t := 1) (b2 := (b.1 - 1 - 1 - 1 - 1 - 1 - 1 - 1 - 1 - 1 - 1 - 1 - 1 - 1 - 1 - 1 - 1 - 1 - 1 - 1 - 1 - 1 - 1, b.2 - n1 - n12 - n15 - n18 - n21 - n24 - n27 - n30 - n33 - n36 - n39 - n42 - n45 - n48 - n51 - n54 - n57 - n60 - n63 - n66 - n69 - n72)) dX12_init_215 e1 e2 e3 (Or.inr (Or.inl ⟨rfl, rfl, rfl⟩)) ac_long (Nat.le_of_eq (Nat.sub_add_cancel e4)) (Nat.le_of_eq (Nat.sub_add_cancel e5)) ?_
  replace hF := hF _ rfl
  generalize (m_up h71.1 h71.2 (.inl (1, n72, .inr (.inl fun _ => 0))), h71.2 + 1) = h73 at hF ⊢
  obtain ⟨h74, e, hF⟩ := hF
  refine m_putfF fp_X12_75_11 rfl dX12_init_217 trivial e ?_
  exact m_return dX12_init_220 trivial hF
theorem en_X12_init {d : Nat} {b : Nat × Nat} {r_0 : Nat} {h : mH} {K : Option Value → mH → Prop} (hk : Wm (d + 1) b JX12_init 0 [some (.ref r_0)] [] h (fun r h' => h'.1 0 = h.1 0 ∧ K r h')) : Ev (d + 1) b MX12_init [.ref r_0] h K :=
  m_met pn_X12 nl_X12 (fun _ => Nat.le_of_ble_eq_true rfl) hk
theorem bk_X12_in_0 {d : Nat} (y_0 : Int64) (y_2 : Int64) (y_4 : Int64) {h : mH} {Q : Option Value → mH → Prop} (hF : (((lg_cmp y_0 y_2) < 0 → Q (some (.int 0)) h) ∧ (¬ ((lg_cmp y_0 y_2) < 0) → ((0 < (lg_cmp y_0 y_4) → Q (some (.int 0)) h) ∧ (¬ (0 < (lg_cmp y_0 y_4)) → Q (some (.int 1)) h))))) : Wm d (0, 0) JX12_in 0 [some (.long y_0), none, some (.long y_2), none, some (.long y_4), none] [] h Q := by
  refine m_lload_n dX12_in_0 rfl ?_
  refine m_lload_n dX12_in_1 rfl ?_
  refine m_lcmp dX12_in_2 ?_
  refine m_if_lt 17 dX12_in_3 (by decide) (fun c => ?_) (fun c => ?_)
  · replace hF := hF.1 c
    refine m_iconst dX12_in_17 ki_0 ?_
    exact m_ireturn dX12_in_18 (Or.inl rfl) hF
  · replace hF := hF.2 c
    refine m_lload_n dX12_in_6 rfl ?_
    refine m_lload dX12_in_7 rfl ?_
    refine m_lcmp dX12_in_9 ?_
    refine m_if_gt 17 dX12_in_10 (by decide) (fun c => ?_) (fun c => ?_)
    · replace hF := hF.1 c
      refine m_iconst dX12_in_17 ki_0 ?_
      exact m_ireturn dX12_in_18 (Or.inl rfl) hF
    · replace hF := hF.2 c
      refine m_iconst dX12_in_13 ki_1 ?_
      refine m_goto 18 dX12_in_14 (by decide) ?_
      exact m_ireturn dX12_in_18 (Or.inr rfl) hF
theorem en_X12_in {d : Nat} {y_0 : Int64} {y_2 : Int64} {y_4 : Int64} {h : mH} {K : Option Value → mH → Prop} (hk : Wm d (0, 0) JX12_in 0 [some (.long y_0), none, some (.long y_2), none, some (.long y_4), none] [] h (fun r h' => h'.1 0 = h.1 0 ∧ K r h')) : Ev d (0, 0) MX12_in [.long y_0, .long y_2, .long y_4] h K :=
  m_met pn_X12 nl_X12 (fun _ => Nat.le_of_ble_eq_true rfl) hk
theorem bk_X12_found_0 {d : Nat} (r_0 : Nat) (x_1 : Int32) {h : mH} {Q : Option Value → mH → Prop} (hF : (∃ h1 : mH, m_put h r_0 11 1 (.int x_1) = some h1 ∧ Q (some (.int ((-1000010) - x_1))) h1)) : Wm d (0, 0) JX12_found 0 [some (.ref r_0), some (.int x_1)] [] h Q := by
  refine m_aload_n dX12_found_0 rfl ?_
  refine m_iload_n dX12_found_1 rfl ?_
  obtain ⟨h1, e, hF⟩ := hF
  refine m_putf fp_X12_82_11 dX12_found_2 trivial e ?_
  refine m_ldc dX12_found_5 kc_X12_85 ?_
  refine m_iload_n dX12_found_7 rfl ?_
  refine m_isub dX12_found_8 ?_
  exact m_ireturn dX12_found_9 trivial hF
theorem en_X12_found {d : Nat} {r_0 : Nat} {x_1 : Int32} {h : mH} {K : Option Value → mH → Prop} (hk : Wm d (0, 0) JX12_found 0 [some (.ref r_0), some (.int x_1)] [] h (fun r h' => h'.1 0 = h.1 0 ∧ K r h')) : Ev d (0, 0) MX12_found [.ref r_0, .int x_1] h K :=
  m_met pn_X12 nl_X12 (fun _ => Nat.le_of_ble_eq_true rfl) hk
theorem bk_X12_isRow_0 {d : Nat} (x_0 : Int32) {h : mH} {Q : Option Value → mH → Prop} (hF : Ev d (0, 0) MX12_in [.long x_0.toInt64, .long 0, .long 7] h (fun r1 h2 => ∃ x3 : Int32, r1 = some (.int x3) ∧ ((x3 = 0 ∨ x3 = 1) ∧ Q (some (.int x3)) h2))) : Wm (d + 1) (0, 0) JX12_isRow 0 [some (.int x_0)] [] h Q := by
  refine m_iload_n dX12_isRow_0 rfl ?_
  refine m_i2l dX12_isRow_1 ?_
  refine m_lconst dX12_isRow_2 kl_0 ?_
  refine m_ldc2_w dX12_isRow_3 kc_X12_86 ?_
  refine m_static (as := [.long x_0.toInt64, .long 0, .long 7]) (rest := []) cs_X12_88 dX12_isRow_6 rfl rfl (Nat.le_of_ble_eq_true rfl) (Nat.le_of_eq (Nat.zero_add _)) (Nat.le_of_eq (Nat.zero_add _)) (b1 := (0, 0)) (b2 := (0, 0)) (Ev.mono hF ?_)
  intro r1 h2 hF
  obtain ⟨x3, rfl, hF⟩ := hF
  exact m_ireturn dX12_isRow_9 hF.1 hF.2
theorem en_X12_isRow {d : Nat} {x_0 : Int32} {h : mH} {K : Option Value → mH → Prop} (hk : Wm (d + 1) (0, 0) JX12_isRow 0 [some (.int x_0)] [] h (fun r h' => h'.1 0 = h.1 0 ∧ K r h')) : Ev (d + 1) (0, 0) MX12_isRow [.int x_0] h K :=
  m_met pn_X12 nl_X12 (fun _ => Nat.le_of_ble_eq_true rfl) hk
theorem bk_X12_row_0 {d : Nat} (r_0 : Nat) (x_1 : Int32) (x_2 : Int32) (x_3 : Int32) {h : mH} {Q : Option Value → mH → Prop} (hF : (∃ h1 : mH, m_put h r_0 11 0 (.int 0) = some h1 ∧ Ev d (0, 0) MX12_isRow [.int x_1] h1 (fun r2 h3 => ∃ x4 : Int32, r2 = some (.int x4) ∧ ((x4 = 0 → Q (some (.int (-1000001))) h3) ∧ (¬ (x4 = 0) → Ev d (0, 0) MX12_in [.long x_2.toInt64, .long 0, .long 2] h3 (fun r5 h6 => ∃ x7 : Int32, r5 = some (.int x7) ∧ ((x7 = 0 → Q (some (.int (-1000001))) h6) ∧ (¬ (x7 = 0) → ((x_3 ≤ 96 → (∃ h8 : mH, m_put h6 r_0 11 1 (.int 0) = some h8 ∧ ((0 ≤ x_3 → (∃ r9 : Nat, m_fld h8 r_0 [11] 2 = some (.ref r9) ∧ (∃ h10 : mH, m_is h8 r9 x_1 x_2 = some h10 ∧ (∃ r11 : Nat, m_fld h10 r_0 [11] 3 = some (.ref r11) ∧ (∃ h12 : mH, m_is h10 r11 x_1 x_3 = some h12 ∧ Wm (d + 1) (0, 0) JX12_row 65 [some (.ref r_0), some (.int x_1), none, some (.int x_3), some (.int 0)] [] h12 Q))))) ∧ (¬ (0 ≤ x_3) → (∃ fs16 : List Value, (h8).1 r_0 = .inr (11, fs16) ∧ Ev d (0, 0) MX12_found [.ref r_0, .int 4] h8 (fun r13 h14 => ∃ x15 : Int32, r13 = some (.int x15) ∧ Q (some (.int x15)) h14)))))) ∧ (¬ (x_3 ≤ 96) → Q (some (.int (-1000001))) h6)))))))))) : Wm (d + 1) (0, 0) JX12_row 0 [some (.ref r_0), some (.int x_1), some (.int x_2), some (.int x_3), none] [] h Q := by
  refine m_aload_n dX12_row_0 rfl ?_
  refine m_iconst dX12_row_1 ki_0 ?_
  obtain ⟨h1, e, hF⟩ := hF
  refine m_putf fp_X12_78_11 dX12_row_2 trivial e ?_
  refine m_iload_n dX12_row_5 rfl ?_
  refine m_static (as := [.int x_1]) (rest := []) cs_X12_92 dX12_row_6 rfl rfl (Nat.le_of_ble_eq_true rfl) (Nat.le_of_eq (Nat.zero_add _)) (Nat.le_of_eq (Nat.zero_add _)) (b1 := (0, 0)) (b2 := (0, 0)) (Ev.mono hF ?_)
  intro r2 h3 hF
  obtain ⟨x4, rfl, hF⟩ := hF
  refine m_if_eq 30 dX12_row_9 (by decide) (fun c => ?_) (fun c => ?_)
  · replace hF := hF.1 c
    refine m_ldc dX12_row_30 kc_X12_98 ?_
    exact m_ireturn dX12_row_32 trivial hF
  · replace hF := hF.2 c
    refine m_iload_n dX12_row_12 rfl ?_
    refine m_i2l dX12_row_13 ?_
    refine m_lconst dX12_row_14 kl_0 ?_
    refine m_ldc2_w dX12_row_15 kc_X12_96 ?_
    refine m_static (as := [.long x_2.toInt64, .long 0, .long 2]) (rest := []) cs_X12_88 dX12_row_18 rfl rfl (Nat.le_of_ble_eq_true rfl) (Nat.le_of_eq (Nat.zero_add _)) (Nat.le_of_eq (Nat.zero_add _)) (b1 := (0, 0)) (b2 := (0, 0)) (Ev.mono hF ?_)
    intro r5 h6 hF
    obtain ⟨x7, rfl, hF⟩ := hF
    refine m_if_eq 30 dX12_row_21 (by decide) (fun c => ?_) (fun c => ?_)
    · replace hF := hF.1 c
      refine m_ldc dX12_row_30 kc_X12_98 ?_
      exact m_ireturn dX12_row_32 trivial hF
    · replace hF := hF.2 c
      refine m_iload_n dX12_row_24 rfl ?_
      refine m_bipush dX12_row_25 kb_96 ?_
      refine m_icmp_le 33 dX12_row_27 (by decide) (fun c => ?_) (fun c => ?_)
      · replace hF := hF.1 c
        refine m_aload_n dX12_row_33 rfl ?_
        refine m_iconst dX12_row_34 ki_0 ?_
        obtain ⟨h8, e, hF⟩ := hF
        refine m_putf fp_X12_82_11 dX12_row_35 trivial e ?_
        refine m_iload_n dX12_row_38 rfl ?_
        refine m_if_ge 48 dX12_row_39 (by decide) (fun c => ?_) (fun c => ?_)
        · replace hF := hF.1 c
          refine m_aload_n dX12_row_48 rfl ?_
          obtain ⟨r9, e, hF⟩ := hF
          refine m_get fg_X12_7 dX12_row_49 e ?_
          refine m_iload_n dX12_row_52 rfl ?_
          refine m_iload_n dX12_row_53 rfl ?_
          obtain ⟨h10, e, hF⟩ := hF
          refine m_iast dX12_row_54 e ?_
          refine m_aload_n dX12_row_55 rfl ?_
          obtain ⟨r11, e, hF⟩ := hF
          refine m_get fg_X12_13 dX12_row_56 e ?_
          refine m_iload_n dX12_row_59 rfl ?_
          refine m_iload_n dX12_row_60 rfl ?_
          obtain ⟨h12, e, hF⟩ := hF
          refine m_iast dX12_row_61 e ?_
          refine m_iconst dX12_row_62 ki_0 ?_
          refine m_istore (ls2 := [some (.ref r_0), some (.int x_1), some (.int x_2), some (.int x_3), some (.int 0)]) dX12_row_63 (by decide) rfl ?_
          refine m_wk [2] rfl ?_
          exact hF
        · replace hF := hF.2 c
          refine m_aload_n dX12_row_42 rfl ?_
          refine m_iconst dX12_row_43 ki_4 ?_
          obtain ⟨fs16, e, hF⟩ := hF
          refine m_virtual (as := [.int 4]) (rest := []) cv_X12_99_11 e dX12_row_44 rfl rfl (Nat.le_of_ble_eq_true rfl) (Nat.le_of_eq (Nat.zero_add _)) (Nat.le_of_eq (Nat.zero_add _)) (b1 := (0, 0)) (b2 := (0, 0)) (Ev.mono hF ?_)
          intro r13 h14 hF
          obtain ⟨x15, rfl, hF⟩ := hF
          exact m_ireturn dX12_row_47 trivial hF
      · replace hF := hF.2 c
        refine m_ldc dX12_row_30 kc_X12_98 ?_
        exact m_ireturn dX12_row_32 trivial hF
theorem bk_X12_row_65 {d : Nat} (r_0 : Nat) (x_1 : Int32) (x_3 : Int32) (x_4 : Int32) {h : mH} {Q : Option Value → mH → Prop} (hF : ((96 ≤ x_4 → Q (some (.int x_3)) h) ∧ (¬ (96 ≤ x_4) → (∃ r1 : Nat, m_fld h r_0 [11] 4 = some (.ref r1) ∧ (∃ h2 : mH, m_is h r1 ((96 * x_1) + x_4) 0 = some h2 ∧ Wm (d + 1) (0, 0) JX12_row 65 [some (.ref r_0), some (.int x_1), none, some (.int x_3), some (.int (x_4 + 1))] [] h2 Q))))) : Wm (d + 1) (0, 0) JX12_row 65 [some (.ref r_0), some (.int x_1), none, some (.int x_3), some (.int x_4)] [] h Q := by
  refine m_iload dX12_row_65 rfl ?_
  refine m_bipush dX12_row_67 kb_96 ?_
  refine m_icmp_ge 91 dX12_row_69 (by decide) (fun c => ?_) (fun c => ?_)
  · replace hF := hF.1 c
    refine m_iload_n dX12_row_91 rfl ?_
    exact m_ireturn dX12_row_92 trivial hF
  · replace hF := hF.2 c
    refine m_aload_n dX12_row_72 rfl ?_
    obtain ⟨r1, e, hF⟩ := hF
    refine m_get fg_X12_16 dX12_row_73 e ?_
    refine m_bipush dX12_row_76 kb_96 ?_
    refine m_iload_n dX12_row_78 rfl ?_
    refine m_imul dX12_row_79 ?_
    refine m_iload dX12_row_80 rfl ?_
    refine m_iadd dX12_row_82 ?_
    refine m_iconst dX12_row_83 ki_0 ?_
    obtain ⟨h2, e, hF⟩ := hF
    refine m_iast dX12_row_84 e ?_
    refine m_iinc (v := x_4 + 1) (ls2 := [some (.ref r_0), some (.int x_1), none, some (.int x_3), some (.int (x_4 + 1))]) dX12_row_85 (by decide) rfl (congrArg (_ + ·) ki_1) rfl ?_
    refine m_goto 65 dX12_row_88 (by decide) ?_
    exact hF
theorem en_X12_row {d : Nat} {r_0 : Nat} {x_1 : Int32} {x_2 : Int32} {x_3 : Int32} {h : mH} {K : Option Value → mH → Prop} (hk : Wm (d + 1) (0, 0) JX12_row 0 [some (.ref r_0), some (.int x_1), some (.int x_2), some (.int x_3), none] [] h (fun r h' => h'.1 0 = h.1 0 ∧ K r h')) : Ev (d + 1) (0, 0) MX12_row [.ref r_0, .int x_1, .int x_2, .int x_3] h K :=
  m_met pn_X12 nl_X12 (fun _ => Nat.le_of_ble_eq_true rfl) hk
theorem bk_X12_set_0 {d : Nat} (r_0 : Nat) (x_1 : Int32) (x_2 : Int32) (x_3 : Int32) {h : mH} {Q : Option Value → mH → Prop} (hF : (∃ h1 : mH, m_put h r_0 11 0 (.int 0) = some h1 ∧ Ev d (0, 0) MX12_isRow [.int x_1] h1 (fun r2 h3 => ∃ x4 : Int32, r2 = some (.int x4) ∧ ((¬ x4 = 0 → (∃ h5 : mH, m_put h3 r_0 11 1 (.int 0) = some h5 ∧ (∃ r6 : Nat, m_fld h5 r_0 [11] 2 = some (.ref r6) ∧ (∃ x7 : Int32, m_il h5 r6 x_1 = some x7 ∧ ((0 ≤ x7 → (∃ r8 : Nat, m_fld h5 r_0 [11] 3 = some (.ref r8) ∧ (∃ x9 : Int32, m_il h5 r8 x_1 = some x9 ∧ Ev d (0, 0) MX12_in [.long x_2.toInt64, .long 0, .long ((x9 - 1).toInt64)] h5 (fun r10 h11 => ∃ x12 : Int32, r10 = some (.int x12) ∧ ((¬ x12 = 0 → (∃ r13 : Nat, m_fld h11 r_0 [11] 4 = some (.ref r13) ∧ (∃ r14 : Nat, m_fld h11 r_0 [11] 2 = some (.ref r14) ∧ (∃ x15 : Int32, m_il h11 r14 x_1 = some x15 ∧ ((¬ x15 = 0 → (∃ r16 : Nat, m_fld h11 r_0 [11] 2 = some (.ref r16) ∧ (∃ x17 : Int32, m_il h11 r16 x_1 = some x17 ∧ ((¬ x17 = 1 → (∃ h18 : mH, m_is h11 r13 ((96 * x_1) + x_2) x_3 = some h18 ∧ (∃ r19 : Nat, m_fld h18 r_0 [11] 4 = some (.ref r19) ∧ (∃ x20 : Int32, m_il h18 r19 ((96 * x_1) + x_2) = some x20 ∧ Q (some (.int x20)) h18)))) ∧ (x17 = 1 → (∃ h21 : mH, m_is h11 r13 ((96 * x_1) + x_2) x_3.toInt16.toInt32 = some h21 ∧ (∃ r22 : Nat, m_fld h21 r_0 [11] 4 = some (.ref r22) ∧ (∃ x23 : Int32, m_il h21 r22 ((96 * x_1) + x_2) = some x23 ∧ Q (some (.int x23)) h21)))))))) ∧ (x15 = 0 → (∃ h24 : mH, m_is h11 r13 ((96 * x_1) + x_2) x_3.toInt8.toInt32 = some h24 ∧ (∃ r25 : Nat, m_fld h24 r_0 [11] 4 = some (.ref r25) ∧ (∃ x26 : Int32, m_il h24 r25 ((96 * x_1) + x_2) = some x26 ∧ Q (some (.int x26)) h24))))))))) ∧ (x12 = 0 → (∃ fs30 : List Value, (h11).1 r_0 = .inr (11, fs30) ∧ Ev d (0, 0) MX12_found [.ref r_0, .int 2] h11 (fun r27 h28 => ∃ x29 : Int32, r27 = some (.int x29) ∧ Q (some (.int x29)) h28)))))))) ∧ (¬ (0 ≤ x7) → (∃ fs34 : List Value, (h5).1 r_0 = .inr (11, fs34) ∧ Ev d (0, 0) MX12_found [.ref r_0, .int 1] h5 (fun r31 h32 => ∃ x33 : Int32, r31 = some (.int x33) ∧ Q (some (.int x33)) h32)))))))) ∧ (x4 = 0 → Q (some (.int (-1000001))) h3))))) : Wm (d + 1) (0, 0) JX12_set 0 [some (.ref r_0), some (.int x_1), some (.int x_2), some (.int x_3)] [] h Q := by
  refine m_aload_n dX12_set_0 rfl ?_
  refine m_iconst dX12_set_1 ki_0 ?_
  obtain ⟨h1, e, hF⟩ := hF
  refine m_putf fp_X12_78_11 dX12_set_2 trivial e ?_
  refine m_iload_n dX12_set_5 rfl ?_
  refine m_static (as := [.int x_1]) (rest := []) cs_X12_92 dX12_set_6 rfl rfl (Nat.le_of_ble_eq_true rfl) (Nat.le_of_eq (Nat.zero_add _)) (Nat.le_of_eq (Nat.zero_add _)) (b1 := (0, 0)) (b2 := (0, 0)) (Ev.mono hF ?_)
  intro r2 h3 hF
  obtain ⟨x4, rfl, hF⟩ := hF
  refine m_if_ne 15 dX12_set_9 (by decide) (fun c => ?_) (fun c => ?_)
  · replace hF := hF.1 c
    refine m_aload_n dX12_set_15 rfl ?_
    refine m_iconst dX12_set_16 ki_0 ?_
    obtain ⟨h5, e, hF⟩ := hF
    refine m_putf fp_X12_82_11 dX12_set_17 trivial e ?_
    refine m_aload_n dX12_set_20 rfl ?_
    obtain ⟨r6, e, hF⟩ := hF
    refine m_get fg_X12_7 dX12_set_21 e ?_
    refine m_iload_n dX12_set_24 rfl ?_
    obtain ⟨x7, e, hF⟩ := hF
    refine m_iald dX12_set_25 e ?_
    refine m_if_ge 35 dX12_set_26 (by decide) (fun c => ?_) (fun c => ?_)
    · replace hF := hF.1 c
      refine m_iload_n dX12_set_35 rfl ?_
      refine m_i2l dX12_set_36 ?_
      refine m_lconst dX12_set_37 kl_0 ?_
      refine m_aload_n dX12_set_38 rfl ?_
      obtain ⟨r8, e, hF⟩ := hF
      refine m_get fg_X12_13 dX12_set_39 e ?_
      refine m_iload_n dX12_set_42 rfl ?_
      obtain ⟨x9, e, hF⟩ := hF
      refine m_iald dX12_set_43 e ?_
      refine m_iconst dX12_set_44 ki_1 ?_
      refine m_isub dX12_set_45 ?_
      refine m_i2l dX12_set_46 ?_
      refine m_static (as := [.long x_2.toInt64, .long 0, .long ((x9 - 1).toInt64)]) (rest := []) cs_X12_88 dX12_set_47 rfl rfl (Nat.le_of_ble_eq_true rfl) (Nat.le_of_eq (Nat.zero_add _)) (Nat.le_of_eq (Nat.zero_add _)) (b1 := (0, 0)) (b2 := (0, 0)) (Ev.mono hF ?_)
      intro r10 h11 hF
      obtain ⟨x12, rfl, hF⟩ := hF
      refine m_if_ne 59 dX12_set_50 (by decide) (fun c => ?_) (fun c => ?_)
      · replace hF := hF.1 c
        refine m_aload_n dX12_set_59 rfl ?_
        obtain ⟨r13, e, hF⟩ := hF
        refine m_get fg_X12_16 dX12_set_60 e ?_
        refine m_bipush dX12_set_63 kb_96 ?_
        refine m_iload_n dX12_set_65 rfl ?_
        refine m_imul dX12_set_66 ?_
        refine m_iload_n dX12_set_67 rfl ?_
        refine m_iadd dX12_set_68 ?_
        refine m_aload_n dX12_set_69 rfl ?_
        obtain ⟨r14, e, hF⟩ := hF
        refine m_get fg_X12_7 dX12_set_70 e ?_
        refine m_iload_n dX12_set_73 rfl ?_
        obtain ⟨x15, e, hF⟩ := hF
        refine m_iald dX12_set_74 e ?_
        refine m_if_ne 83 dX12_set_75 (by decide) (fun c => ?_) (fun c => ?_)
        · replace hF := hF.1 c
          refine m_aload_n dX12_set_83 rfl ?_
          obtain ⟨r16, e, hF⟩ := hF
          refine m_get fg_X12_7 dX12_set_84 e ?_
          refine m_iload_n dX12_set_87 rfl ?_
          obtain ⟨x17, e, hF⟩ := hF
          refine m_iald dX12_set_88 e ?_
          refine m_iconst dX12_set_89 ki_1 ?_
          refine m_icmp_ne 98 dX12_set_90 (by decide) (fun c => ?_) (fun c => ?_)
          · replace hF := hF.1 c
            refine m_iload_n dX12_set_98 rfl ?_
            obtain ⟨h18, e, hF⟩ := hF
            refine m_iast dX12_set_99 e ?_
            refine m_aload_n dX12_set_100 rfl ?_
            obtain ⟨r19, e, hF⟩ := hF
            refine m_get fg_X12_16 dX12_set_101 e ?_
            refine m_bipush dX12_set_104 kb_96 ?_
            refine m_iload_n dX12_set_106 rfl ?_
            refine m_imul dX12_set_107 ?_
            refine m_iload_n dX12_set_108 rfl ?_
            refine m_iadd dX12_set_109 ?_
            obtain ⟨x20, e, hF⟩ := hF
            refine m_iald dX12_set_110 e ?_
            exact m_ireturn dX12_set_111 trivial hF
          · replace hF := hF.2 c
            refine m_iload_n dX12_set_93 rfl ?_
            refine m_i2s dX12_set_94 ?_
            refine m_goto 99 dX12_set_95 (by decide) ?_
            obtain ⟨h21, e, hF⟩ := hF
            refine m_iast dX12_set_99 e ?_
            refine m_aload_n dX12_set_100 rfl ?_
            obtain ⟨r22, e, hF⟩ := hF
            refine m_get fg_X12_16 dX12_set_101 e ?_
            refine m_bipush dX12_set_104 kb_96 ?_
            refine m_iload_n dX12_set_106 rfl ?_
            refine m_imul dX12_set_107 ?_
            refine m_iload_n dX12_set_108 rfl ?_
            refine m_iadd dX12_set_109 ?_
            obtain ⟨x23, e, hF⟩ := hF
            refine m_iald dX12_set_110 e ?_
            exact m_ireturn dX12_set_111 trivial hF
        · replace hF := hF.2 c
          refine m_iload_n dX12_set_78 rfl ?_
          refine m_i2b dX12_set_79 ?_
          refine m_goto 99 dX12_set_80 (by decide) ?_
          obtain ⟨h24, e, hF⟩ := hF
          refine m_iast dX12_set_99 e ?_
          refine m_aload_n dX12_set_100 rfl ?_
          obtain ⟨r25, e, hF⟩ := hF
          refine m_get fg_X12_16 dX12_set_101 e ?_
          refine m_bipush dX12_set_104 kb_96 ?_
          refine m_iload_n dX12_set_106 rfl ?_
          refine m_imul dX12_set_107 ?_
          refine m_iload_n dX12_set_108 rfl ?_
          refine m_iadd dX12_set_109 ?_
          obtain ⟨x26, e, hF⟩ := hF
          refine m_iald dX12_set_110 e ?_
          exact m_ireturn dX12_set_111 trivial hF
      · replace hF := hF.2 c
        refine m_aload_n dX12_set_53 rfl ?_
        refine m_iconst dX12_set_54 ki_2 ?_
        obtain ⟨fs30, e, hF⟩ := hF
        refine m_virtual (as := [.int 2]) (rest := []) cv_X12_99_11 e dX12_set_55 rfl rfl (Nat.le_of_ble_eq_true rfl) (Nat.le_of_eq (Nat.zero_add _)) (Nat.le_of_eq (Nat.zero_add _)) (b1 := (0, 0)) (b2 := (0, 0)) (Ev.mono hF ?_)
        intro r27 h28 hF
        obtain ⟨x29, rfl, hF⟩ := hF
        exact m_ireturn dX12_set_58 trivial hF
    · replace hF := hF.2 c
      refine m_aload_n dX12_set_29 rfl ?_
      refine m_iconst dX12_set_30 ki_1 ?_
      obtain ⟨fs34, e, hF⟩ := hF
      refine m_virtual (as := [.int 1]) (rest := []) cv_X12_99_11 e dX12_set_31 rfl rfl (Nat.le_of_ble_eq_true rfl) (Nat.le_of_eq (Nat.zero_add _)) (Nat.le_of_eq (Nat.zero_add _)) (b1 := (0, 0)) (b2 := (0, 0)) (Ev.mono hF ?_)
      intro r31 h32 hF
      obtain ⟨x33, rfl, hF⟩ := hF
      exact m_ireturn dX12_set_34 trivial hF
  · replace hF := hF.2 c
    refine m_ldc dX12_set_12 kc_X12_98 ?_
    exact m_ireturn dX12_set_14 trivial hF
theorem en_X12_set {d : Nat} {r_0 : Nat} {x_1 : Int32} {x_2 : Int32} {x_3 : Int32} {h : mH} {K : Option Value → mH → Prop} (hk : Wm (d + 1) (0, 0) JX12_set 0 [some (.ref r_0), some (.int x_1), some (.int x_2), some (.int x_3)] [] h (fun r h' => h'.1 0 = h.1 0 ∧ K r h')) : Ev (d + 1) (0, 0) MX12_set [.ref r_0, .int x_1, .int x_2, .int x_3] h K :=
  m_met pn_X12 nl_X12 (fun _ => Nat.le_of_ble_eq_true rfl) hk
theorem bk_X12_copy_0 {d : Nat} (r_0 : Nat) (x_1 : Int32) (x_2 : Int32) (x_3 : Int32) (x_4 : Int32) (x_5 : Int32) {h : mH} {Q : Option Value → mH → Prop} (hF : (∃ h1 : mH, m_put h r_0 11 0 (.int 0) = some h1 ∧ Ev d (0, 0) MX12_isRow [.int x_1] h1 (fun r2 h3 => ∃ x4 : Int32, r2 = some (.int x4) ∧ ((x4 = 0 → Q (some (.int (-1000001))) h3) ∧ (¬ (x4 = 0) → Ev d (0, 0) MX12_isRow [.int x_3] h3 (fun r5 h6 => ∃ x7 : Int32, r5 = some (.int x7) ∧ ((¬ x7 = 0 → (∃ h8 : mH, m_put h6 r_0 11 1 (.int 0) = some h8 ∧ (∃ r9 : Nat, m_fld h8 r_0 [11] 2 = some (.ref r9) ∧ (∃ x10 : Int32, m_il h8 r9 x_1 = some x10 ∧ ((x10 < 0 → (∃ fs14 : List Value, (h8).1 r_0 = .inr (11, fs14) ∧ Ev d (0, 0) MX12_found [.ref r_0, .int 1] h8 (fun r11 h12 => ∃ x13 : Int32, r11 = some (.int x13) ∧ Q (some (.int x13)) h12))) ∧ (¬ (x10 < 0) → (∃ r15 : Nat, m_fld h8 r_0 [11] 2 = some (.ref r15) ∧ (∃ x16 : Int32, m_il h8 r15 x_3 = some x16 ∧ ((0 ≤ x16 → (∃ r17 : Nat, m_fld h8 r_0 [11] 2 = some (.ref r17) ∧ (∃ x18 : Int32, m_il h8 r17 x_1 = some x18 ∧ (∃ r19 : Nat, m_fld h8 r_0 [11] 2 = some (.ref r19) ∧ (∃ x20 : Int32, m_il h8 r19 x_3 = some x20 ∧ ((x18 = x20 → ((x_2 < 0 → (∃ fs24 : List Value, (h8).1 r_0 = .inr (11, fs24) ∧ Ev d (0, 0) MX12_found [.ref r_0, .int 2] h8 (fun r21 h22 => ∃ x23 : Int32, r21 = some (.int x23) ∧ Q (some (.int x23)) h22))) ∧ (¬ (x_2 < 0) → ((x_4 < 0 → (∃ fs28 : List Value, (h8).1 r_0 = .inr (11, fs28) ∧ Ev d (0, 0) MX12_found [.ref r_0, .int 2] h8 (fun r25 h26 => ∃ x27 : Int32, r25 = some (.int x27) ∧ Q (some (.int x27)) h26))) ∧ (¬ (x_4 < 0) → ((x_5 < 0 → (∃ fs32 : List Value, (h8).1 r_0 = .inr (11, fs32) ∧ Ev d (0, 0) MX12_found [.ref r_0, .int 2] h8 (fun r29 h30 => ∃ x31 : Int32, r29 = some (.int x31) ∧ Q (some (.int x31)) h30))) ∧ (¬ (x_5 < 0) → (∃ r33 : Nat, m_fld h8 r_0 [11] 3 = some (.ref r33) ∧ (∃ x34 : Int32, m_il h8 r33 x_1 = some x34 ∧ ((0 < (lg_cmp (x_2.toInt64 + x_5.toInt64) x34.toInt64) → (∃ fs38 : List Value, (h8).1 r_0 = .inr (11, fs38) ∧ Ev d (0, 0) MX12_found [.ref r_0, .int 2] h8 (fun r35 h36 => ∃ x37 : Int32, r35 = some (.int x37) ∧ Q (some (.int x37)) h36))) ∧ (¬ (0 < (lg_cmp (x_2.toInt64 + x_5.toInt64) x34.toInt64)) → (∃ r39 : Nat, m_fld h8 r_0 [11] 3 = some (.ref r39) ∧ (∃ x40 : Int32, m_il h8 r39 x_3 = some x40 ∧ (((lg_cmp (x_4.toInt64 + x_5.toInt64) x40.toInt64) ≤ 0 → ((x_2 < x_4 → Wm (d + 1) (0, 0) JX12_copy 143 [some (.ref r_0), some (.int x_1), some (.int x_2), some (.int x_3), some (.int x_4), some (.int x_5), some (.int 0), some (.int 0), none] [] h8 Q) ∧ (¬ (x_2 < x_4) → Wm (d + 1) (0, 0) JX12_copy 143 [some (.ref r_0), some (.int x_1), some (.int x_2), some (.int x_3), some (.int x_4), some (.int x_5), some (.int 1), some (.int 0), none] [] h8 Q))) ∧ (¬ ((lg_cmp (x_4.toInt64 + x_5.toInt64) x40.toInt64) ≤ 0) → (∃ fs44 : List Value, (h8).1 r_0 = .inr (11, fs44) ∧ Ev d (0, 0) MX12_found [.ref r_0, .int 2] h8 (fun r41 h42 => ∃ x43 : Int32, r41 = some (.int x43) ∧ Q (some (.int x43)) h42))))))))))))))))) ∧ (¬ (x18 = x20) → (∃ fs48 : List Value, (h8).1 r_0 = .inr (11, fs48) ∧ Ev d (0, 0) MX12_found [.ref r_0, .int 5] h8 (fun r45 h46 => ∃ x47 : Int32, r45 = some (.int x47) ∧ Q (some (.int x47)) h46))))))))) ∧ (¬ (0 ≤ x16) → (∃ fs52 : List Value, (h8).1 r_0 = .inr (11, fs52) ∧ Ev d (0, 0) MX12_found [.ref r_0, .int 1] h8 (fun r49 h50 => ∃ x51 : Int32, r49 = some (.int x51) ∧ Q (some (.int x51)) h50)))))))))))) ∧ (x7 = 0 → Q (some (.int (-1000001))) h6)))))))) : Wm (d + 1) (0, 0) JX12_copy 0 [some (.ref r_0), some (.int x_1), some (.int x_2), some (.int x_3), some (.int x_4), some (.int x_5), none, none, none] [] h Q := by
  refine m_aload_n dX12_copy_0 rfl ?_
  refine m_iconst dX12_copy_1 ki_0 ?_
  obtain ⟨h1, e, hF⟩ := hF
  refine m_putf fp_X12_78_11 dX12_copy_2 trivial e ?_
  refine m_iload_n dX12_copy_5 rfl ?_
  refine m_static (as := [.int x_1]) (rest := []) cs_X12_92 dX12_copy_6 rfl rfl (Nat.le_of_ble_eq_true rfl) (Nat.le_of_eq (Nat.zero_add _)) (Nat.le_of_eq (Nat.zero_add _)) (b1 := (0, 0)) (b2 := (0, 0)) (Ev.mono hF ?_)
  intro r2 h3 hF
  obtain ⟨x4, rfl, hF⟩ := hF
  refine m_if_eq 19 dX12_copy_9 (by decide) (fun c => ?_) (fun c => ?_)
  · replace hF := hF.1 c
    refine m_ldc dX12_copy_19 kc_X12_98 ?_
    exact m_ireturn dX12_copy_21 trivial hF
  · replace hF := hF.2 c
    refine m_iload_n dX12_copy_12 rfl ?_
    refine m_static (as := [.int x_3]) (rest := []) cs_X12_92 dX12_copy_13 rfl rfl (Nat.le_of_ble_eq_true rfl) (Nat.le_of_eq (Nat.zero_add _)) (Nat.le_of_eq (Nat.zero_add _)) (b1 := (0, 0)) (b2 := (0, 0)) (Ev.mono hF ?_)
    intro r5 h6 hF
    obtain ⟨x7, rfl, hF⟩ := hF
    refine m_if_ne 22 dX12_copy_16 (by decide) (fun c => ?_) (fun c => ?_)
    · replace hF := hF.1 c
      refine m_aload_n dX12_copy_22 rfl ?_
      refine m_iconst dX12_copy_23 ki_0 ?_
      obtain ⟨h8, e, hF⟩ := hF
      refine m_putf fp_X12_82_11 dX12_copy_24 trivial e ?_
      refine m_aload_n dX12_copy_27 rfl ?_
      obtain ⟨r9, e, hF⟩ := hF
      refine m_get fg_X12_7 dX12_copy_28 e ?_
      refine m_iload_n dX12_copy_31 rfl ?_
      obtain ⟨x10, e, hF⟩ := hF
      refine m_iald dX12_copy_32 e ?_
      refine m_if_lt 45 dX12_copy_33 (by decide) (fun c => ?_) (fun c => ?_)
      · replace hF := hF.1 c
        refine m_aload_n dX12_copy_45 rfl ?_
        refine m_iconst dX12_copy_46 ki_1 ?_
        obtain ⟨fs14, e, hF⟩ := hF
        refine m_virtual (as := [.int 1]) (rest := []) cv_X12_99_11 e dX12_copy_47 rfl rfl (Nat.le_of_ble_eq_true rfl) (Nat.le_of_eq (Nat.zero_add _)) (Nat.le_of_eq (Nat.zero_add _)) (b1 := (0, 0)) (b2 := (0, 0)) (Ev.mono hF ?_)
        intro r11 h12 hF
        obtain ⟨x13, rfl, hF⟩ := hF
        exact m_ireturn dX12_copy_50 trivial hF
      · replace hF := hF.2 c
        refine m_aload_n dX12_copy_36 rfl ?_
        obtain ⟨r15, e, hF⟩ := hF
        refine m_get fg_X12_7 dX12_copy_37 e ?_
        refine m_iload_n dX12_copy_40 rfl ?_
        obtain ⟨x16, e, hF⟩ := hF
        refine m_iald dX12_copy_41 e ?_
        refine m_if_ge 51 dX12_copy_42 (by decide) (fun c => ?_) (fun c => ?_)
        · replace hF := hF.1 c
          refine m_aload_n dX12_copy_51 rfl ?_
          obtain ⟨r17, e, hF⟩ := hF
          refine m_get fg_X12_7 dX12_copy_52 e ?_
          refine m_iload_n dX12_copy_55 rfl ?_
          obtain ⟨x18, e, hF⟩ := hF
          refine m_iald dX12_copy_56 e ?_
          refine m_aload_n dX12_copy_57 rfl ?_
          obtain ⟨r19, e, hF⟩ := hF
          refine m_get fg_X12_7 dX12_copy_58 e ?_
          refine m_iload_n dX12_copy_61 rfl ?_
          obtain ⟨x20, e, hF⟩ := hF
          refine m_iald dX12_copy_62 e ?_
          refine m_icmp_eq 72 dX12_copy_63 (by decide) (fun c => ?_) (fun c => ?_)
          · replace hF := hF.1 c
            refine m_iload_n dX12_copy_72 rfl ?_
            refine m_if_lt 121 dX12_copy_73 (by decide) (fun c => ?_) (fun c => ?_)
            · replace hF := hF.1 c
              refine m_aload_n dX12_copy_121 rfl ?_
              refine m_iconst dX12_copy_122 ki_2 ?_
              obtain ⟨fs24, e, hF⟩ := hF
              refine m_virtual (as := [.int 2]) (rest := []) cv_X12_99_11 e dX12_copy_123 rfl rfl (Nat.le_of_ble_eq_true rfl) (Nat.le_of_eq (Nat.zero_add _)) (Nat.le_of_eq (Nat.zero_add _)) (b1 := (0, 0)) (b2 := (0, 0)) (Ev.mono hF ?_)
              intro r21 h22 hF
              obtain ⟨x23, rfl, hF⟩ := hF
              exact m_ireturn dX12_copy_126 trivial hF
            · replace hF := hF.2 c
              refine m_iload dX12_copy_76 rfl ?_
              refine m_if_lt 121 dX12_copy_78 (by decide) (fun c => ?_) (fun c => ?_)
              · replace hF := hF.1 c
                refine m_aload_n dX12_copy_121 rfl ?_
                refine m_iconst dX12_copy_122 ki_2 ?_
                obtain ⟨fs28, e, hF⟩ := hF
                refine m_virtual (as := [.int 2]) (rest := []) cv_X12_99_11 e dX12_copy_123 rfl rfl (Nat.le_of_ble_eq_true rfl) (Nat.le_of_eq (Nat.zero_add _)) (Nat.le_of_eq (Nat.zero_add _)) (b1 := (0, 0)) (b2 := (0, 0)) (Ev.mono hF ?_)
                intro r25 h26 hF
                obtain ⟨x27, rfl, hF⟩ := hF
                exact m_ireturn dX12_copy_126 trivial hF
              · replace hF := hF.2 c
                refine m_iload dX12_copy_81 rfl ?_
                refine m_if_lt 121 dX12_copy_83 (by decide) (fun c => ?_) (fun c => ?_)
                · replace hF := hF.1 c
                  refine m_aload_n dX12_copy_121 rfl ?_
                  refine m_iconst dX12_copy_122 ki_2 ?_
                  obtain ⟨fs32, e, hF⟩ := hF
                  refine m_virtual (as := [.int 2]) (rest := []) cv_X12_99_11 e dX12_copy_123 rfl rfl (Nat.le_of_ble_eq_true rfl) (Nat.le_of_eq (Nat.zero_add _)) (Nat.le_of_eq (Nat.zero_add _)) (b1 := (0, 0)) (b2 := (0, 0)) (Ev.mono hF ?_)
                  intro r29 h30 hF
                  obtain ⟨x31, rfl, hF⟩ := hF
                  exact m_ireturn dX12_copy_126 trivial hF
                · replace hF := hF.2 c
                  refine m_iload_n dX12_copy_86 rfl ?_
                  refine m_i2l dX12_copy_87 ?_
                  refine m_iload dX12_copy_88 rfl ?_
                  refine m_i2l dX12_copy_90 ?_
                  refine m_ladd dX12_copy_91 ?_
                  refine m_aload_n dX12_copy_92 rfl ?_
                  obtain ⟨r33, e, hF⟩ := hF
                  refine m_get fg_X12_13 dX12_copy_93 e ?_
                  refine m_iload_n dX12_copy_96 rfl ?_
                  obtain ⟨x34, e, hF⟩ := hF
                  refine m_iald dX12_copy_97 e ?_
                  refine m_i2l dX12_copy_98 ?_
                  refine m_lcmp dX12_copy_99 ?_
                  refine m_if_gt 121 dX12_copy_100 (by decide) (fun c => ?_) (fun c => ?_)
                  · replace hF := hF.1 c
                    refine m_aload_n dX12_copy_121 rfl ?_
                    refine m_iconst dX12_copy_122 ki_2 ?_
                    obtain ⟨fs38, e, hF⟩ := hF
                    refine m_virtual (as := [.int 2]) (rest := []) cv_X12_99_11 e dX12_copy_123 rfl rfl (Nat.le_of_ble_eq_true rfl) (Nat.le_of_eq (Nat.zero_add _)) (Nat.le_of_eq (Nat.zero_add _)) (b1 := (0, 0)) (b2 := (0, 0)) (Ev.mono hF ?_)
                    intro r35 h36 hF
                    obtain ⟨x37, rfl, hF⟩ := hF
                    exact m_ireturn dX12_copy_126 trivial hF
                  · replace hF := hF.2 c
                    refine m_iload dX12_copy_103 rfl ?_
                    refine m_i2l dX12_copy_105 ?_
                    refine m_iload dX12_copy_106 rfl ?_
                    refine m_i2l dX12_copy_108 ?_
                    refine m_ladd dX12_copy_109 ?_
                    refine m_aload_n dX12_copy_110 rfl ?_
                    obtain ⟨r39, e, hF⟩ := hF
                    refine m_get fg_X12_13 dX12_copy_111 e ?_
                    refine m_iload_n dX12_copy_114 rfl ?_
                    obtain ⟨x40, e, hF⟩ := hF
                    refine m_iald dX12_copy_115 e ?_
                    refine m_i2l dX12_copy_116 ?_
                    refine m_lcmp dX12_copy_117 ?_
                    refine m_if_le 127 dX12_copy_118 (by decide) (fun c => ?_) (fun c => ?_)
                    · replace hF := hF.1 c
                      refine m_iload_n dX12_copy_127 rfl ?_
                      refine m_iload dX12_copy_128 rfl ?_
                      refine m_icmp_lt 137 dX12_copy_130 (by decide) (fun c => ?_) (fun c => ?_)
                      · replace hF := hF.1 c
                        refine m_iconst dX12_copy_137 ki_0 ?_
                        refine m_istore (ls2 := [some (.ref r_0), some (.int x_1), some (.int x_2), some (.int x_3), some (.int x_4), some (.int x_5), some (.int 0), none, none]) dX12_copy_138 (by decide) rfl ?_
                        refine m_iconst dX12_copy_140 ki_0 ?_
                        refine m_istore (ls2 := [some (.ref r_0), some (.int x_1), some (.int x_2), some (.int x_3), some (.int x_4), some (.int x_5), some (.int 0), some (.int 0), none]) dX12_copy_141 (by decide) rfl ?_
                        exact hF
                      · replace hF := hF.2 c
                        refine m_iconst dX12_copy_133 ki_1 ?_
                        refine m_goto 138 dX12_copy_134 (by decide) ?_
                        refine m_istore (ls2 := [some (.ref r_0), some (.int x_1), some (.int x_2), some (.int x_3), some (.int x_4), some (.int x_5), some (.int 1), none, none]) dX12_copy_138 (by decide) rfl ?_
                        refine m_iconst dX12_copy_140 ki_0 ?_
                        refine m_istore (ls2 := [some (.ref r_0), some (.int x_1), some (.int x_2), some (.int x_3), some (.int x_4), some (.int x_5), some (.int 1), some (.int 0), none]) dX12_copy_141 (by decide) rfl ?_
                        exact hF
                    · replace hF := hF.2 c
                      refine m_aload_n dX12_copy_121 rfl ?_
                      refine m_iconst dX12_copy_122 ki_2 ?_
                      obtain ⟨fs44, e, hF⟩ := hF
                      refine m_virtual (as := [.int 2]) (rest := []) cv_X12_99_11 e dX12_copy_123 rfl rfl (Nat.le_of_ble_eq_true rfl) (Nat.le_of_eq (Nat.zero_add _)) (Nat.le_of_eq (Nat.zero_add _)) (b1 := (0, 0)) (b2 := (0, 0)) (Ev.mono hF ?_)
                      intro r41 h42 hF
                      obtain ⟨x43, rfl, hF⟩ := hF
                      exact m_ireturn dX12_copy_126 trivial hF
          · replace hF := hF.2 c
            refine m_aload_n dX12_copy_66 rfl ?_
            refine m_iconst dX12_copy_67 ki_5 ?_
            obtain ⟨fs48, e, hF⟩ := hF
            refine m_virtual (as := [.int 5]) (rest := []) cv_X12_99_11 e dX12_copy_68 rfl rfl (Nat.le_of_ble_eq_true rfl) (Nat.le_of_eq (Nat.zero_add _)) (Nat.le_of_eq (Nat.zero_add _)) (b1 := (0, 0)) (b2 := (0, 0)) (Ev.mono hF ?_)
            intro r45 h46 hF
            obtain ⟨x47, rfl, hF⟩ := hF
            exact m_ireturn dX12_copy_71 trivial hF
        · replace hF := hF.2 c
          refine m_aload_n dX12_copy_45 rfl ?_
          refine m_iconst dX12_copy_46 ki_1 ?_
          obtain ⟨fs52, e, hF⟩ := hF
          refine m_virtual (as := [.int 1]) (rest := []) cv_X12_99_11 e dX12_copy_47 rfl rfl (Nat.le_of_ble_eq_true rfl) (Nat.le_of_eq (Nat.zero_add _)) (Nat.le_of_eq (Nat.zero_add _)) (b1 := (0, 0)) (b2 := (0, 0)) (Ev.mono hF ?_)
          intro r49 h50 hF
          obtain ⟨x51, rfl, hF⟩ := hF
          exact m_ireturn dX12_copy_50 trivial hF
    · replace hF := hF.2 c
      refine m_ldc dX12_copy_19 kc_X12_98 ?_
      exact m_ireturn dX12_copy_21 trivial hF
theorem bk_X12_copy_143 {d : Nat} (r_0 : Nat) (x_1 : Int32) (x_2 : Int32) (x_3 : Int32) (x_4 : Int32) (x_5 : Int32) (x_6 : Int32) (x_7 : Int32) {h : mH} {Q : Option Value → mH → Prop} (hF : ((x_5 ≤ x_7 → Q (some (.int x_5)) h) ∧ (¬ (x_5 ≤ x_7) → ((x_6 = 0 → (∃ r1 : Nat, m_fld h r_0 [11] 4 = some (.ref r1) ∧ (∃ r2 : Nat, m_fld h r_0 [11] 4 = some (.ref r2) ∧ (∃ x3 : Int32, m_il h r2 (((96 * x_1) + x_2) + ((x_5 - 1) - x_7)) = some x3 ∧ (∃ h4 : mH, m_is h r1 (((96 * x_3) + x_4) + ((x_5 - 1) - x_7)) x3 = some h4 ∧ Wm (d + 1) (0, 0) JX12_copy 143 [some (.ref r_0), some (.int x_1), some (.int x_2), some (.int x_3), some (.int x_4), some (.int x_5), some (.int x_6), some (.int (x_7 + 1)), none] [] h4 Q))))) ∧ (¬ (x_6 = 0) → (∃ r5 : Nat, m_fld h r_0 [11] 4 = some (.ref r5) ∧ (∃ r6 : Nat, m_fld h r_0 [11] 4 = some (.ref r6) ∧ (∃ x7 : Int32, m_il h r6 (((96 * x_1) + x_2) + x_7) = some x7 ∧ (∃ h8 : mH, m_is h r5 (((96 * x_3) + x_4) + x_7) x7 = some h8 ∧ Wm (d + 1) (0, 0) JX12_copy 143 [some (.ref r_0), some (.int x_1), some (.int x_2), some (.int x_3), some (.int x_4), some (.int x_5), some (.int x_6), some (.int (x_7 + 1)), none] [] h8 Q))))))))) : Wm (d + 1) (0, 0) JX12_copy 143 [some (.ref r_0), some (.int x_1), some (.int x_2), some (.int x_3), some (.int x_4), some (.int x_5), some (.int x_6), some (.int x_7), none] [] h Q := by
  refine m_iload dX12_copy_143 rfl ?_
  refine m_iload dX12_copy_145 rfl ?_
  refine m_icmp_ge 204 dX12_copy_147 (by decide) (fun c => ?_) (fun c => ?_)
  · replace hF := hF.1 c
    refine m_iload dX12_copy_204 rfl ?_
    exact m_ireturn dX12_copy_206 trivial hF
  · replace hF := hF.2 c
    refine m_iload dX12_copy_150 rfl ?_
    refine m_if_eq 160 dX12_copy_152 (by decide) (fun c => ?_) (fun c => ?_)
    · replace hF := hF.1 c
      refine m_iload dX12_copy_160 rfl ?_
      refine m_iconst dX12_copy_162 ki_1 ?_
      refine m_isub dX12_copy_163 ?_
      refine m_iload dX12_copy_164 rfl ?_
      refine m_isub dX12_copy_166 ?_
      refine m_istore (ls2 := [some (.ref r_0), some (.int x_1), some (.int x_2), some (.int x_3), some (.int x_4), some (.int x_5), some (.int x_6), some (.int x_7), some (.int ((x_5 - 1) - x_7))]) dX12_copy_167 (by decide) rfl ?_
      refine m_aload_n dX12_copy_169 rfl ?_
      obtain ⟨r1, e, hF⟩ := hF
      refine m_get fg_X12_16 dX12_copy_170 e ?_
      refine m_bipush dX12_copy_173 kb_96 ?_
      refine m_iload_n dX12_copy_175 rfl ?_
      refine m_imul dX12_copy_176 ?_
      refine m_iload dX12_copy_177 rfl ?_
      refine m_iadd dX12_copy_179 ?_
      refine m_iload dX12_copy_180 rfl ?_
      refine m_iadd dX12_copy_182 ?_
      refine m_aload_n dX12_copy_183 rfl ?_
      obtain ⟨r2, e, hF⟩ := hF
      refine m_get fg_X12_16 dX12_copy_184 e ?_
      refine m_bipush dX12_copy_187 kb_96 ?_
      refine m_iload_n dX12_copy_189 rfl ?_
      refine m_imul dX12_copy_190 ?_
      refine m_iload_n dX12_copy_191 rfl ?_
      refine m_iadd dX12_copy_192 ?_
      refine m_iload dX12_copy_193 rfl ?_
      refine m_iadd dX12_copy_195 ?_
      obtain ⟨x3, e, hF⟩ := hF
      refine m_iald dX12_copy_196 e ?_
      obtain ⟨h4, e, hF⟩ := hF
      refine m_iast dX12_copy_197 e ?_
      refine m_iinc (v := x_7 + 1) (ls2 := [some (.ref r_0), some (.int x_1), some (.int x_2), some (.int x_3), some (.int x_4), some (.int x_5), some (.int x_6), some (.int (x_7 + 1)), some (.int ((x_5 - 1) - x_7))]) dX12_copy_198 (by decide) rfl (congrArg (_ + ·) ki_1) rfl ?_
      refine m_goto 143 dX12_copy_201 (by decide) ?_
      refine m_wk [8] rfl ?_
      exact hF
    · replace hF := hF.2 c
      refine m_iload dX12_copy_155 rfl ?_
      refine m_goto 167 dX12_copy_157 (by decide) ?_
      refine m_istore (ls2 := [some (.ref r_0), some (.int x_1), some (.int x_2), some (.int x_3), some (.int x_4), some (.int x_5), some (.int x_6), some (.int x_7), some (.int x_7)]) dX12_copy_167 (by decide) rfl ?_
      refine m_aload_n dX12_copy_169 rfl ?_
      obtain ⟨r5, e, hF⟩ := hF
      refine m_get fg_X12_16 dX12_copy_170 e ?_
      refine m_bipush dX12_copy_173 kb_96 ?_
      refine m_iload_n dX12_copy_175 rfl ?_
      refine m_imul dX12_copy_176 ?_
      refine m_iload dX12_copy_177 rfl ?_
      refine m_iadd dX12_copy_179 ?_
      refine m_iload dX12_copy_180 rfl ?_
      refine m_iadd dX12_copy_182 ?_
      refine m_aload_n dX12_copy_183 rfl ?_
      obtain ⟨r6, e, hF⟩ := hF
      refine m_get fg_X12_16 dX12_copy_184 e ?_
      refine m_bipush dX12_copy_187 kb_96 ?_
      refine m_iload_n dX12_copy_189 rfl ?_
      refine m_imul dX12_copy_190 ?_
      refine m_iload_n dX12_copy_191 rfl ?_
      refine m_iadd dX12_copy_192 ?_
      refine m_iload dX12_copy_193 rfl ?_
      refine m_iadd dX12_copy_195 ?_
      obtain ⟨x7, e, hF⟩ := hF
      refine m_iald dX12_copy_196 e ?_
      obtain ⟨h8, e, hF⟩ := hF
      refine m_iast dX12_copy_197 e ?_
      refine m_iinc (v := x_7 + 1) (ls2 := [some (.ref r_0), some (.int x_1), some (.int x_2), some (.int x_3), some (.int x_4), some (.int x_5), some (.int x_6), some (.int (x_7 + 1)), some (.int x_7)]) dX12_copy_198 (by decide) rfl (congrArg (_ + ·) ki_1) rfl ?_
      refine m_goto 143 dX12_copy_201 (by decide) ?_
      refine m_wk [8] rfl ?_
      exact hF
theorem en_X12_copy {d : Nat} {r_0 : Nat} {x_1 : Int32} {x_2 : Int32} {x_3 : Int32} {x_4 : Int32} {x_5 : Int32} {h : mH} {K : Option Value → mH → Prop} (hk : Wm (d + 1) (0, 0) JX12_copy 0 [some (.ref r_0), some (.int x_1), some (.int x_2), some (.int x_3), some (.int x_4), some (.int x_5), none, none, none] [] h (fun r h' => h'.1 0 = h.1 0 ∧ K r h')) : Ev (d + 1) (0, 0) MX12_copy [.ref r_0, .int x_1, .int x_2, .int x_3, .int x_4, .int x_5] h K :=
  m_met pn_X12 nl_X12 (fun _ => Nat.le_of_ble_eq_true rfl) hk
theorem bk_X12_drop_0 {d : Nat} (r_0 : Nat) (x_1 : Int32) {h : mH} {Q : Option Value → mH → Prop} (hF : (∃ h1 : mH, m_put h r_0 11 0 (.int 0) = some h1 ∧ Ev d (0, 0) MX12_isRow [.int x_1] h1 (fun r2 h3 => ∃ x4 : Int32, r2 = some (.int x4) ∧ ((¬ x4 = 0 → (∃ h5 : mH, m_put h3 r_0 11 1 (.int 0) = some h5 ∧ (∃ r6 : Nat, m_fld h5 r_0 [11] 2 = some (.ref r6) ∧ (∃ x7 : Int32, m_il h5 r6 x_1 = some x7 ∧ ((0 ≤ x7 → (∃ r8 : Nat, m_fld h5 r_0 [11] 2 = some (.ref r8) ∧ (∃ h9 : mH, m_is h5 r8 x_1 (-1) = some h9 ∧ (∃ r10 : Nat, m_fld h9 r_0 [11] 3 = some (.ref r10) ∧ (∃ x11 : Int32, m_il h9 r10 x_1 = some x11 ∧ Q (some (.int x11)) h9))))) ∧ (¬ (0 ≤ x7) → (∃ fs15 : List Value, (h5).1 r_0 = .inr (11, fs15) ∧ Ev d (0, 0) MX12_found [.ref r_0, .int 1] h5 (fun r12 h13 => ∃ x14 : Int32, r12 = some (.int x14) ∧ Q (some (.int x14)) h13)))))))) ∧ (x4 = 0 → Q (some (.int (-1000001))) h3))))) : Wm (d + 1) (0, 0) JX12_drop 0 [some (.ref r_0), some (.int x_1)] [] h Q := by
  refine m_aload_n dX12_drop_0 rfl ?_
  refine m_iconst dX12_drop_1 ki_0 ?_
  obtain ⟨h1, e, hF⟩ := hF
  refine m_putf fp_X12_78_11 dX12_drop_2 trivial e ?_
  refine m_iload_n dX12_drop_5 rfl ?_
  refine m_static (as := [.int x_1]) (rest := []) cs_X12_92 dX12_drop_6 rfl rfl (Nat.le_of_ble_eq_true rfl) (Nat.le_of_eq (Nat.zero_add _)) (Nat.le_of_eq (Nat.zero_add _)) (b1 := (0, 0)) (b2 := (0, 0)) (Ev.mono hF ?_)
  intro r2 h3 hF
  obtain ⟨x4, rfl, hF⟩ := hF
  refine m_if_ne 15 dX12_drop_9 (by decide) (fun c => ?_) (fun c => ?_)
  · replace hF := hF.1 c
    refine m_aload_n dX12_drop_15 rfl ?_
    refine m_iconst dX12_drop_16 ki_0 ?_
    obtain ⟨h5, e, hF⟩ := hF
    refine m_putf fp_X12_82_11 dX12_drop_17 trivial e ?_
    refine m_aload_n dX12_drop_20 rfl ?_
    obtain ⟨r6, e, hF⟩ := hF
    refine m_get fg_X12_7 dX12_drop_21 e ?_
    refine m_iload_n dX12_drop_24 rfl ?_
    obtain ⟨x7, e, hF⟩ := hF
    refine m_iald dX12_drop_25 e ?_
    refine m_if_ge 35 dX12_drop_26 (by decide) (fun c => ?_) (fun c => ?_)
    · replace hF := hF.1 c
      refine m_aload_n dX12_drop_35 rfl ?_
      obtain ⟨r8, e, hF⟩ := hF
      refine m_get fg_X12_7 dX12_drop_36 e ?_
      refine m_iload_n dX12_drop_39 rfl ?_
      refine m_iconst dX12_drop_40 ki_m1 ?_
      obtain ⟨h9, e, hF⟩ := hF
      refine m_iast dX12_drop_41 e ?_
      refine m_aload_n dX12_drop_42 rfl ?_
      obtain ⟨r10, e, hF⟩ := hF
      refine m_get fg_X12_13 dX12_drop_43 e ?_
      refine m_iload_n dX12_drop_46 rfl ?_
      obtain ⟨x11, e, hF⟩ := hF
      refine m_iald dX12_drop_47 e ?_
      exact m_ireturn dX12_drop_48 trivial hF
    · replace hF := hF.2 c
      refine m_aload_n dX12_drop_29 rfl ?_
      refine m_iconst dX12_drop_30 ki_1 ?_
      obtain ⟨fs15, e, hF⟩ := hF
      refine m_virtual (as := [.int 1]) (rest := []) cv_X12_99_11 e dX12_drop_31 rfl rfl (Nat.le_of_ble_eq_true rfl) (Nat.le_of_eq (Nat.zero_add _)) (Nat.le_of_eq (Nat.zero_add _)) (b1 := (0, 0)) (b2 := (0, 0)) (Ev.mono hF ?_)
      intro r12 h13 hF
      obtain ⟨x14, rfl, hF⟩ := hF
      exact m_ireturn dX12_drop_34 trivial hF
  · replace hF := hF.2 c
    refine m_ldc dX12_drop_12 kc_X12_98 ?_
    exact m_ireturn dX12_drop_14 trivial hF
theorem en_X12_drop {d : Nat} {r_0 : Nat} {x_1 : Int32} {h : mH} {K : Option Value → mH → Prop} (hk : Wm (d + 1) (0, 0) JX12_drop 0 [some (.ref r_0), some (.int x_1)] [] h (fun r h' => h'.1 0 = h.1 0 ∧ K r h')) : Ev (d + 1) (0, 0) MX12_drop [.ref r_0, .int x_1] h K :=
  m_met pn_X12 nl_X12 (fun _ => Nat.le_of_ble_eq_true rfl) hk
theorem bk_X12_isPlace_0 {d : Nat} (x_0 : Int32) {h : mH} {Q : Option Value → mH → Prop} (hF : Ev d (0, 0) MX12_in [.long x_0.toInt64, .long 0, .long 9] h (fun r1 h2 => ∃ x3 : Int32, r1 = some (.int x3) ∧ ((x3 = 0 ∨ x3 = 1) ∧ Q (some (.int x3)) h2))) : Wm (d + 1) (0, 0) JX12_isPlace 0 [some (.int x_0)] [] h Q := by
  refine m_iload_n dX12_isPlace_0 rfl ?_
  refine m_i2l dX12_isPlace_1 ?_
  refine m_lconst dX12_isPlace_2 kl_0 ?_
  refine m_ldc2_w dX12_isPlace_3 kc_X12_103 ?_
  refine m_static (as := [.long x_0.toInt64, .long 0, .long 9]) (rest := []) cs_X12_88 dX12_isPlace_6 rfl rfl (Nat.le_of_ble_eq_true rfl) (Nat.le_of_eq (Nat.zero_add _)) (Nat.le_of_eq (Nat.zero_add _)) (b1 := (0, 0)) (b2 := (0, 0)) (Ev.mono hF ?_)
  intro r1 h2 hF
  obtain ⟨x3, rfl, hF⟩ := hF
  exact m_ireturn dX12_isPlace_9 hF.1 hF.2
theorem en_X12_isPlace {d : Nat} {x_0 : Int32} {h : mH} {K : Option Value → mH → Prop} (hk : Wm (d + 1) (0, 0) JX12_isPlace 0 [some (.int x_0)] [] h (fun r h' => h'.1 0 = h.1 0 ∧ K r h')) : Ev (d + 1) (0, 0) MX12_isPlace [.int x_0] h K :=
  m_met pn_X12 nl_X12 (fun _ => Nat.le_of_ble_eq_true rfl) hk
theorem bk_X12_at_0 {d : Nat} (r_0 : Nat) (x_1 : Int32) (x_2 : Int32) (x_3 : Int32) {h : mH} {Q : Option Value → mH → Prop} (hF : (∃ r1 : Nat, m_fld h r_0 [11] 7 = some (.ref r1) ∧ (∃ x2 : Int32, m_il h r1 (((96 * x_1) + (12 * x_2)) + x_3) = some x2 ∧ Q (some (.int x2)) h))) : Wm d (0, 0) JX12_at 0 [some (.ref r_0), some (.int x_1), some (.int x_2), some (.int x_3)] [] h Q := by
  refine m_aload_n dX12_at_0 rfl ?_
  obtain ⟨r1, e, hF⟩ := hF
  refine m_get fg_X12_25 dX12_at_1 e ?_
  refine m_bipush dX12_at_4 kb_96 ?_
  refine m_iload_n dX12_at_6 rfl ?_
  refine m_imul dX12_at_7 ?_
  refine m_bipush dX12_at_8 kb_12 ?_
  refine m_iload_n dX12_at_10 rfl ?_
  refine m_imul dX12_at_11 ?_
  refine m_iadd dX12_at_12 ?_
  refine m_iload_n dX12_at_13 rfl ?_
  refine m_iadd dX12_at_14 ?_
  obtain ⟨x2, e, hF⟩ := hF
  refine m_iald dX12_at_15 e ?_
  exact m_ireturn dX12_at_16 trivial hF
theorem en_X12_at {d : Nat} {r_0 : Nat} {x_1 : Int32} {x_2 : Int32} {x_3 : Int32} {h : mH} {K : Option Value → mH → Prop} (hk : Wm d (0, 0) JX12_at 0 [some (.ref r_0), some (.int x_1), some (.int x_2), some (.int x_3)] [] h (fun r h' => h'.1 0 = h.1 0 ∧ K r h')) : Ev d (0, 0) MX12_at [.ref r_0, .int x_1, .int x_2, .int x_3] h K :=
  m_met pn_X12 nl_X12 (fun _ => Nat.le_of_ble_eq_true rfl) hk
theorem bk_X12_put_0 {d : Nat} (r_0 : Nat) (x_1 : Int32) (x_2 : Int32) (x_3 : Int32) (x_4 : Int32) {h : mH} {Q : Option Value → mH → Prop} (hF : (∃ r1 : Nat, m_fld h r_0 [11] 7 = some (.ref r1) ∧ (∃ h2 : mH, m_is h r1 (((96 * x_1) + (12 * x_2)) + x_3) x_4 = some h2 ∧ Q none h2))) : Wm d (0, 0) JX12_put 0 [some (.ref r_0), some (.int x_1), some (.int x_2), some (.int x_3), some (.int x_4)] [] h Q := by
  refine m_aload_n dX12_put_0 rfl ?_
  obtain ⟨r1, e, hF⟩ := hF
  refine m_get fg_X12_25 dX12_put_1 e ?_
  refine m_bipush dX12_put_4 kb_96 ?_
  refine m_iload_n dX12_put_6 rfl ?_
  refine m_imul dX12_put_7 ?_
  refine m_bipush dX12_put_8 kb_12 ?_
  refine m_iload_n dX12_put_10 rfl ?_
  refine m_imul dX12_put_11 ?_
  refine m_iadd dX12_put_12 ?_
  refine m_iload_n dX12_put_13 rfl ?_
  refine m_iadd dX12_put_14 ?_
  refine m_iload dX12_put_15 rfl ?_
  obtain ⟨h2, e, hF⟩ := hF
  refine m_iast dX12_put_17 e ?_
  exact m_return dX12_put_18 trivial hF
theorem en_X12_put {d : Nat} {r_0 : Nat} {x_1 : Int32} {x_2 : Int32} {x_3 : Int32} {x_4 : Int32} {h : mH} {K : Option Value → mH → Prop} (hk : Wm d (0, 0) JX12_put 0 [some (.ref r_0), some (.int x_1), some (.int x_2), some (.int x_3), some (.int x_4)] [] h (fun r h' => h'.1 0 = h.1 0 ∧ K r h')) : Ev d (0, 0) MX12_put [.ref r_0, .int x_1, .int x_2, .int x_3, .int x_4] h K :=
  m_met pn_X12 nl_X12 (fun _ => Nat.le_of_ble_eq_true rfl) hk
theorem bk_X12_backAt_0 {d : Nat} (r_0 : Nat) (x_1 : Int32) (x_2 : Int32) (x_3 : Int32) {h : mH} {Q : Option Value → mH → Prop} (hF : Wm (d + 1) (0, 0) JX12_backAt 3 [some (.ref r_0), some (.int x_1), some (.int x_2), some (.int x_3), some (.int 0)] [] h Q) : Wm (d + 1) (0, 0) JX12_backAt 0 [some (.ref r_0), some (.int x_1), some (.int x_2), some (.int x_3), none] [] h Q := by
  refine m_iconst dX12_backAt_0 ki_0 ?_
  refine m_istore (ls2 := [some (.ref r_0), some (.int x_1), some (.int x_2), some (.int x_3), some (.int 0)]) dX12_backAt_1 (by decide) rfl ?_
  exact hF
theorem bk_X12_backAt_3 {d : Nat} (r_0 : Nat) (x_1 : Int32) (x_2 : Int32) (x_3 : Int32) (x_4 : Int32) {h : mH} {Q : Option Value → mH → Prop} (hF : (∃ fs4 : List Value, (h).1 r_0 = .inr (11, fs4) ∧ Ev d (0, 0) MX12_at [.ref r_0, .int x_1, .int x_2, .int x_4] h (fun r1 h2 => ∃ x3 : Int32, r1 = some (.int x3) ∧ ((x3 = x_3 → Q (some (.int x_4)) h2) ∧ (¬ (x3 = x_3) → Wm (d + 1) (0, 0) JX12_backAt 3 [some (.ref r_0), some (.int x_1), some (.int x_2), some (.int x_3), some (.int (x_4 + 1))] [] h2 Q))))) : Wm (d + 1) (0, 0) JX12_backAt 3 [some (.ref r_0), some (.int x_1), some (.int x_2), some (.int x_3), some (.int x_4)] [] h Q := by
  refine m_aload_n dX12_backAt_3 rfl ?_
  refine m_iload_n dX12_backAt_4 rfl ?_
  refine m_iload_n dX12_backAt_5 rfl ?_
  refine m_iload dX12_backAt_6 rfl ?_
  obtain ⟨fs4, e, hF⟩ := hF
  refine m_virtual (as := [.int x_1, .int x_2, .int x_4]) (rest := []) cv_X12_105_11 e dX12_backAt_8 rfl rfl (Nat.le_of_ble_eq_true rfl) (Nat.le_of_eq (Nat.zero_add _)) (Nat.le_of_eq (Nat.zero_add _)) (b1 := (0, 0)) (b2 := (0, 0)) (Ev.mono hF ?_)
  intro r1 h2 hF
  obtain ⟨x3, rfl, hF⟩ := hF
  refine m_iload_n dX12_backAt_11 rfl ?_
  refine m_icmp_eq 21 dX12_backAt_12 (by decide) (fun c => ?_) (fun c => ?_)
  · replace hF := hF.1 c
    refine m_iload dX12_backAt_21 rfl ?_
    exact m_ireturn dX12_backAt_23 trivial hF
  · replace hF := hF.2 c
    refine m_iinc (v := x_4 + 1) (ls2 := [some (.ref r_0), some (.int x_1), some (.int x_2), some (.int x_3), some (.int (x_4 + 1))]) dX12_backAt_15 (by decide) rfl (congrArg (_ + ·) ki_1) rfl ?_
    refine m_goto 3 dX12_backAt_18 (by decide) ?_
    exact hF
theorem en_X12_backAt {d : Nat} {r_0 : Nat} {x_1 : Int32} {x_2 : Int32} {x_3 : Int32} {h : mH} {K : Option Value → mH → Prop} (hk : Wm (d + 1) (0, 0) JX12_backAt 0 [some (.ref r_0), some (.int x_1), some (.int x_2), some (.int x_3), none] [] h (fun r h' => h'.1 0 = h.1 0 ∧ K r h')) : Ev (d + 1) (0, 0) MX12_backAt [.ref r_0, .int x_1, .int x_2, .int x_3] h K :=
  m_met pn_X12 nl_X12 (fun _ => Nat.le_of_ble_eq_true rfl) hk
theorem bk_X12_become_0 {d : Nat} (r_0 : Nat) (x_1 : Int32) (x_2 : Int32) {h : mH} {Q : Option Value → mH → Prop} (hF : (∃ r1 : Nat, m_fld h r_0 [11] 5 = some (.ref r1) ∧ (∃ r2 : Nat, m_fld h r_0 [11] 5 = some (.ref r2) ∧ (∃ x3 : Int32, m_il h r2 x_2 = some x3 ∧ (∃ h4 : mH, m_is h r1 x_1 x3 = some h4 ∧ (∃ r5 : Nat, m_fld h4 r_0 [11] 6 = some (.ref r5) ∧ (∃ r6 : Nat, m_fld h4 r_0 [11] 6 = some (.ref r6) ∧ (∃ x7 : Int32, m_il h4 r6 x_2 = some x7 ∧ (∃ h8 : mH, m_is h4 r5 x_1 x7 = some h8 ∧ Wm d (0, 0) JX12_become 26 [some (.ref r_0), some (.int x_1), some (.int x_2), some (.int 0)] [] h8 Q))))))))) : Wm d (0, 0) JX12_become 0 [some (.ref r_0), some (.int x_1), some (.int x_2), none] [] h Q := by
  refine m_aload_n dX12_become_0 rfl ?_
  obtain ⟨r1, e, hF⟩ := hF
  refine m_get fg_X12_19 dX12_become_1 e ?_
  refine m_iload_n dX12_become_4 rfl ?_
  refine m_aload_n dX12_become_5 rfl ?_
  obtain ⟨r2, e, hF⟩ := hF
  refine m_get fg_X12_19 dX12_become_6 e ?_
  refine m_iload_n dX12_become_9 rfl ?_
  obtain ⟨x3, e, hF⟩ := hF
  refine m_iald dX12_become_10 e ?_
  obtain ⟨h4, e, hF⟩ := hF
  refine m_iast dX12_become_11 e ?_
  refine m_aload_n dX12_become_12 rfl ?_
  obtain ⟨r5, e, hF⟩ := hF
  refine m_get fg_X12_22 dX12_become_13 e ?_
  refine m_iload_n dX12_become_16 rfl ?_
  refine m_aload_n dX12_become_17 rfl ?_
  obtain ⟨r6, e, hF⟩ := hF
  refine m_get fg_X12_22 dX12_become_18 e ?_
  refine m_iload_n dX12_become_21 rfl ?_
  obtain ⟨x7, e, hF⟩ := hF
  refine m_iald dX12_become_22 e ?_
  obtain ⟨h8, e, hF⟩ := hF
  refine m_iast dX12_become_23 e ?_
  refine m_iconst dX12_become_24 ki_0 ?_
  refine m_istore_n (ls2 := [some (.ref r_0), some (.int x_1), some (.int x_2), some (.int 0)]) dX12_become_25 (by decide) rfl ?_
  exact hF
theorem bk_X12_become_26 {d : Nat} (r_0 : Nat) (x_1 : Int32) (x_2 : Int32) (x_3 : Int32) {h : mH} {Q : Option Value → mH → Prop} (hF : ((96 ≤ x_3 → Q none h) ∧ (¬ (96 ≤ x_3) → (∃ r1 : Nat, m_fld h r_0 [11] 7 = some (.ref r1) ∧ (∃ r2 : Nat, m_fld h r_0 [11] 7 = some (.ref r2) ∧ (∃ x3 : Int32, m_il h r2 ((96 * x_2) + x_3) = some x3 ∧ (∃ h4 : mH, m_is h r1 ((96 * x_1) + x_3) x3 = some h4 ∧ Wm d (0, 0) JX12_become 26 [some (.ref r_0), some (.int x_1), some (.int x_2), some (.int (x_3 + 1))] [] h4 Q))))))) : Wm d (0, 0) JX12_become 26 [some (.ref r_0), some (.int x_1), some (.int x_2), some (.int x_3)] [] h Q := by
  refine m_iload_n dX12_become_26 rfl ?_
  refine m_bipush dX12_become_27 kb_96 ?_
  refine m_icmp_ge 60 dX12_become_29 (by decide) (fun c => ?_) (fun c => ?_)
  · replace hF := hF.1 c
    exact m_return dX12_become_60 trivial hF
  · replace hF := hF.2 c
    refine m_aload_n dX12_become_32 rfl ?_
    obtain ⟨r1, e, hF⟩ := hF
    refine m_get fg_X12_25 dX12_become_33 e ?_
    refine m_bipush dX12_become_36 kb_96 ?_
    refine m_iload_n dX12_become_38 rfl ?_
    refine m_imul dX12_become_39 ?_
    refine m_iload_n dX12_become_40 rfl ?_
    refine m_iadd dX12_become_41 ?_
    refine m_aload_n dX12_become_42 rfl ?_
    obtain ⟨r2, e, hF⟩ := hF
    refine m_get fg_X12_25 dX12_become_43 e ?_
    refine m_bipush dX12_become_46 kb_96 ?_
    refine m_iload_n dX12_become_48 rfl ?_
    refine m_imul dX12_become_49 ?_
    refine m_iload_n dX12_become_50 rfl ?_
    refine m_iadd dX12_become_51 ?_
    obtain ⟨x3, e, hF⟩ := hF
    refine m_iald dX12_become_52 e ?_
    obtain ⟨h4, e, hF⟩ := hF
    refine m_iast dX12_become_53 e ?_
    refine m_iinc (v := x_3 + 1) (ls2 := [some (.ref r_0), some (.int x_1), some (.int x_2), some (.int (x_3 + 1))]) dX12_become_54 (by decide) rfl (congrArg (_ + ·) ki_1) rfl ?_
    refine m_goto 26 dX12_become_57 (by decide) ?_
    exact hF
theorem en_X12_become {d : Nat} {r_0 : Nat} {x_1 : Int32} {x_2 : Int32} {h : mH} {K : Option Value → mH → Prop} (hk : Wm d (0, 0) JX12_become 0 [some (.ref r_0), some (.int x_1), some (.int x_2), none] [] h (fun r h' => h'.1 0 = h.1 0 ∧ K r h')) : Ev d (0, 0) MX12_become [.ref r_0, .int x_1, .int x_2] h K :=
  m_met pn_X12 nl_X12 (fun _ => Nat.le_of_ble_eq_true rfl) hk
theorem bk_X12_rounds_0 {d : Nat} (r_0 : Nat) (x_1 : Int32) (x_2 : Int32) {h : mH} {Q : Option Value → mH → Prop} (hF : (∃ r1 : Nat, m_fld h r_0 [11] 5 = some (.ref r1) ∧ (∃ x2 : Int32, m_il h r1 x_1 = some x2 ∧ Wm (d + 1) (0, 0) JX12_rounds 10 [some (.ref r_0), some (.int x_1), some (.int x_2), some (.int x2), some (.int 0), none, none, none] [] h Q))) : Wm (d + 1) (0, 0) JX12_rounds 0 [some (.ref r_0), some (.int x_1), some (.int x_2), none, none, none, none, none] [] h Q := by
  refine m_aload_n dX12_rounds_0 rfl ?_
  obtain ⟨r1, e, hF⟩ := hF
  refine m_get fg_X12_19 dX12_rounds_1 e ?_
  refine m_iload_n dX12_rounds_4 rfl ?_
  obtain ⟨x2, e, hF⟩ := hF
  refine m_iald dX12_rounds_5 e ?_
  refine m_istore_n (ls2 := [some (.ref r_0), some (.int x_1), some (.int x_2), some (.int x2), none, none, none, none]) dX12_rounds_6 (by decide) rfl ?_
  refine m_iconst dX12_rounds_7 ki_0 ?_
  refine m_istore (ls2 := [some (.ref r_0), some (.int x_1), some (.int x_2), some (.int x2), some (.int 0), none, none, none]) dX12_rounds_8 (by decide) rfl ?_
  exact hF
theorem bk_X12_rounds_10 {d : Nat} (r_0 : Nat) (x_1 : Int32) (x_2 : Int32) (x_3 : Int32) (x_4 : Int32) {h : mH} {Q : Option Value → mH → Prop} (hF : ((x_3 ≤ x_4 → Wm (d + 1) (0, 0) JX12_rounds 36 [some (.ref r_0), some (.int x_1), some (.int x_2), some (.int x_3), some (.int 0), some (.int 0), none, none] [] h Q) ∧ (¬ (x_3 ≤ x_4) → (∃ r1 : Nat, m_fld h r_0 [11] 8 = some (.ref r1) ∧ (∃ h2 : mH, m_zs h r1 x_4 0 = some h2 ∧ Wm (d + 1) (0, 0) JX12_rounds 10 [some (.ref r_0), some (.int x_1), some (.int x_2), some (.int x_3), some (.int (x_4 + 1)), none, none, none] [] h2 Q))))) : Wm (d + 1) (0, 0) JX12_rounds 10 [some (.ref r_0), some (.int x_1), some (.int x_2), some (.int x_3), some (.int x_4), none, none, none] [] h Q := by
  refine m_iload dX12_rounds_10 rfl ?_
  refine m_iload_n dX12_rounds_12 rfl ?_
  refine m_icmp_ge 30 dX12_rounds_13 (by decide) (fun c => ?_) (fun c => ?_)
  · replace hF := hF.1 c
    refine m_iconst dX12_rounds_30 ki_0 ?_
    refine m_istore (ls2 := [some (.ref r_0), some (.int x_1), some (.int x_2), some (.int x_3), some (.int 0), none, none, none]) dX12_rounds_31 (by decide) rfl ?_
    refine m_iconst dX12_rounds_33 ki_0 ?_
    refine m_istore (ls2 := [some (.ref r_0), some (.int x_1), some (.int x_2), some (.int x_3), some (.int 0), some (.int 0), none, none]) dX12_rounds_34 (by decide) rfl ?_
    exact hF
  · replace hF := hF.2 c
    refine m_aload_n dX12_rounds_16 rfl ?_
    obtain ⟨r1, e, hF⟩ := hF
    refine m_get fg_X12_28 dX12_rounds_17 e ?_
    refine m_iload dX12_rounds_20 rfl ?_
    refine m_iconst dX12_rounds_22 ki_0 ?_
    obtain ⟨h2, e, hF⟩ := hF
    refine m_zast dX12_rounds_23 e ?_
    refine m_iinc (v := x_4 + 1) (ls2 := [some (.ref r_0), some (.int x_1), some (.int x_2), some (.int x_3), some (.int (x_4 + 1)), none, none, none]) dX12_rounds_24 (by decide) rfl (congrArg (_ + ·) ki_1) rfl ?_
    refine m_goto 10 dX12_rounds_27 (by decide) ?_
    exact hF
theorem bk_X12_rounds_36 {d : Nat} (r_0 : Nat) (x_1 : Int32) (x_2 : Int32) (x_3 : Int32) (x_4 : Int32) (x_5 : Int32) {h : mH} {Q : Option Value → mH → Prop} (hF : ((x_3 ≤ x_5 → Q (some (.int x_4)) h) ∧ (¬ (x_3 ≤ x_5) → (∃ r1 : Nat, m_fld h r_0 [11] 8 = some (.ref r1) ∧ (∃ x2 : Int32, m_zl h r1 x_5 = some x2 ∧ ((¬ x2 = 0 → Wm (d + 1) (0, 0) JX12_rounds 36 [some (.ref r_0), some (.int x_1), some (.int x_2), some (.int x_3), some (.int x_4), some (.int (x_5 + 1)), none, none] [] h Q) ∧ (x2 = 0 → Wm (d + 1) (0, 0) JX12_rounds 59 [some (.ref r_0), some (.int x_1), some (.int x_2), some (.int x_3), some (.int x_4), some (.int x_5), some (.int 0), some (.int x_5)] [] h Q))))))) : Wm (d + 1) (0, 0) JX12_rounds 36 [some (.ref r_0), some (.int x_1), some (.int x_2), some (.int x_3), some (.int x_4), some (.int x_5), none, none] [] h Q := by
  refine m_iload dX12_rounds_36 rfl ?_
  refine m_iload_n dX12_rounds_38 rfl ?_
  refine m_icmp_ge 156 dX12_rounds_39 (by decide) (fun c => ?_) (fun c => ?_)
  · replace hF := hF.1 c
    refine m_iload dX12_rounds_156 rfl ?_
    exact m_ireturn dX12_rounds_158 trivial hF
  · replace hF := hF.2 c
    refine m_aload_n dX12_rounds_42 rfl ?_
    obtain ⟨r1, e, hF⟩ := hF
    refine m_get fg_X12_28 dX12_rounds_43 e ?_
    refine m_iload dX12_rounds_46 rfl ?_
    obtain ⟨x2, e, hF⟩ := hF
    refine m_zald dX12_rounds_48 e ?_
    refine m_if_ne 150 dX12_rounds_49 (by decide) (fun c => ?_) (fun c => ?_)
    · replace hF := hF.1 c
      refine m_iinc (v := x_5 + 1) (ls2 := [some (.ref r_0), some (.int x_1), some (.int x_2), some (.int x_3), some (.int x_4), some (.int (x_5 + 1)), none, none]) dX12_rounds_150 (by decide) rfl (congrArg (_ + ·) ki_1) rfl ?_
      refine m_goto 36 dX12_rounds_153 (by decide) ?_
      exact hF
    · replace hF := hF.2 c
      refine m_iconst dX12_rounds_52 ki_0 ?_
      refine m_istore (ls2 := [some (.ref r_0), some (.int x_1), some (.int x_2), some (.int x_3), some (.int x_4), some (.int x_5), some (.int 0), none]) dX12_rounds_53 (by decide) rfl ?_
      refine m_iload dX12_rounds_55 rfl ?_
      refine m_istore (ls2 := [some (.ref r_0), some (.int x_1), some (.int x_2), some (.int x_3), some (.int x_4), some (.int x_5), some (.int 0), some (.int x_5)]) dX12_rounds_57 (by decide) rfl ?_
      exact hF
theorem bk_X12_rounds_59 {d : Nat} (r_0 : Nat) (x_1 : Int32) (x_2 : Int32) (x_3 : Int32) (x_4 : Int32) (x_5 : Int32) (x_6 : Int32) (x_7 : Int32) {h : mH} {Q : Option Value → mH → Prop} (hF : (∃ r1 : Nat, m_fld h r_0 [11] 8 = some (.ref r1) ∧ (∃ x2 : Int32, m_zl h r1 x_7 = some x2 ∧ ((¬ x2 = 0 → Wm (d + 1) (0, 0) JX12_rounds 97 [some (.ref r_0), some (.int x_1), some (.int x_2), some (.int x_3), some (.int x_4), some (.int x_5), some (.int x_6), some (.int x_4)] [] h Q) ∧ (x2 = 0 → (∃ r3 : Nat, m_fld h r_0 [11] 8 = some (.ref r3) ∧ (∃ h4 : mH, m_zs h r3 x_7 1 = some h4 ∧ (∃ fs8 : List Value, (h4).1 r_0 = .inr (11, fs8) ∧ Ev d (0, 0) MX12_at [.ref r_0, .int x_1, .int x_2, .int x_7] h4 (fun r5 h6 => ∃ x7 : Int32, r5 = some (.int x7) ∧ Wm (d + 1) (0, 0) JX12_rounds 59 [some (.ref r_0), some (.int x_1), some (.int x_2), some (.int x_3), some (.int x_4), some (.int x_5), some (.int (x_6 + 1)), some (.int x7)] [] h6 Q))))))))) : Wm (d + 1) (0, 0) JX12_rounds 59 [some (.ref r_0), some (.int x_1), some (.int x_2), some (.int x_3), some (.int x_4), some (.int x_5), some (.int x_6), some (.int x_7)] [] h Q := by
  refine m_aload_n dX12_rounds_59 rfl ?_
  obtain ⟨r1, e, hF⟩ := hF
  refine m_get fg_X12_28 dX12_rounds_60 e ?_
  refine m_iload dX12_rounds_63 rfl ?_
  obtain ⟨x2, e, hF⟩ := hF
  refine m_zald dX12_rounds_65 e ?_
  refine m_if_ne 93 dX12_rounds_66 (by decide) (fun c => ?_) (fun c => ?_)
  · replace hF := hF.1 c
    refine m_iload dX12_rounds_93 rfl ?_
    refine m_istore (ls2 := [some (.ref r_0), some (.int x_1), some (.int x_2), some (.int x_3), some (.int x_4), some (.int x_5), some (.int x_6), some (.int x_4)]) dX12_rounds_95 (by decide) rfl ?_
    exact hF
  · replace hF := hF.2 c
    refine m_aload_n dX12_rounds_69 rfl ?_
    obtain ⟨r3, e, hF⟩ := hF
    refine m_get fg_X12_28 dX12_rounds_70 e ?_
    refine m_iload dX12_rounds_73 rfl ?_
    refine m_iconst dX12_rounds_75 ki_1 ?_
    obtain ⟨h4, e, hF⟩ := hF
    refine m_zast dX12_rounds_76 e ?_
    refine m_iinc (v := x_6 + 1) (ls2 := [some (.ref r_0), some (.int x_1), some (.int x_2), some (.int x_3), some (.int x_4), some (.int x_5), some (.int (x_6 + 1)), some (.int x_7)]) dX12_rounds_77 (by decide) rfl (congrArg (_ + ·) ki_1) rfl ?_
    refine m_aload_n dX12_rounds_80 rfl ?_
    refine m_iload_n dX12_rounds_81 rfl ?_
    refine m_iload_n dX12_rounds_82 rfl ?_
    refine m_iload dX12_rounds_83 rfl ?_
    obtain ⟨fs8, e, hF⟩ := hF
    refine m_virtual (as := [.int x_1, .int x_2, .int x_7]) (rest := []) cv_X12_105_11 e dX12_rounds_85 rfl rfl (Nat.le_of_ble_eq_true rfl) (Nat.le_of_eq (Nat.zero_add _)) (Nat.le_of_eq (Nat.zero_add _)) (b1 := (0, 0)) (b2 := (0, 0)) (Ev.mono hF ?_)
    intro r5 h6 hF
    obtain ⟨x7, rfl, hF⟩ := hF
    refine m_istore (ls2 := [some (.ref r_0), some (.int x_1), some (.int x_2), some (.int x_3), some (.int x_4), some (.int x_5), some (.int (x_6 + 1)), some (.int x7)]) dX12_rounds_88 (by decide) rfl ?_
    refine m_goto 59 dX12_rounds_90 (by decide) ?_
    exact hF
theorem bk_X12_rounds_97 {d : Nat} (r_0 : Nat) (x_1 : Int32) (x_2 : Int32) (x_3 : Int32) (x_4 : Int32) (x_5 : Int32) (x_6 : Int32) (x_7 : Int32) {h : mH} {Q : Option Value → mH → Prop} (hF : ((x_7 ≤ 0 → (∃ r1 : Nat, m_fld h r_0 [11] 9 = some (.ref r1) ∧ (∃ h2 : mH, m_is h r1 x_7 x_6 = some h2 ∧ Wm (d + 1) (0, 0) JX12_rounds 36 [some (.ref r_0), some (.int x_1), some (.int x_2), some (.int x_3), some (.int (x_4 + 1)), some (.int (x_5 + 1)), none, none] [] h2 Q))) ∧ (¬ (x_7 ≤ 0) → (∃ r3 : Nat, m_fld h r_0 [11] 9 = some (.ref r3) ∧ (∃ x4 : Int32, m_il h r3 (x_7 - 1) = some x4 ∧ ((x_6 ≤ x4 → (∃ r5 : Nat, m_fld h r_0 [11] 9 = some (.ref r5) ∧ (∃ h6 : mH, m_is h r5 x_7 x_6 = some h6 ∧ Wm (d + 1) (0, 0) JX12_rounds 36 [some (.ref r_0), some (.int x_1), some (.int x_2), some (.int x_3), some (.int (x_4 + 1)), some (.int (x_5 + 1)), none, none] [] h6 Q))) ∧ (¬ (x_6 ≤ x4) → (∃ r7 : Nat, m_fld h r_0 [11] 9 = some (.ref r7) ∧ (∃ r8 : Nat, m_fld h r_0 [11] 9 = some (.ref r8) ∧ (∃ x9 : Int32, m_il h r8 (x_7 - 1) = some x9 ∧ (∃ h10 : mH, m_is h r7 x_7 x9 = some h10 ∧ Wm (d + 1) (0, 0) JX12_rounds 97 [some (.ref r_0), some (.int x_1), some (.int x_2), some (.int x_3), some (.int x_4), some (.int x_5), some (.int x_6), some (.int (x_7 + (-1)))] [] h10 Q))))))))))) : Wm (d + 1) (0, 0) JX12_rounds 97 [some (.ref r_0), some (.int x_1), some (.int x_2), some (.int x_3), some (.int x_4), some (.int x_5), some (.int x_6), some (.int x_7)] [] h Q := by
  refine m_iload dX12_rounds_97 rfl ?_
  refine m_if_le 138 dX12_rounds_99 (by decide) (fun c => ?_) (fun c => ?_)
  · replace hF := hF.1 c
    refine m_aload_n dX12_rounds_138 rfl ?_
    obtain ⟨r1, e, hF⟩ := hF
    refine m_get fg_X12_32 dX12_rounds_139 e ?_
    refine m_iload dX12_rounds_142 rfl ?_
    refine m_iload dX12_rounds_144 rfl ?_
    obtain ⟨h2, e, hF⟩ := hF
    refine m_iast dX12_rounds_146 e ?_
    refine m_iinc (v := x_4 + 1) (ls2 := [some (.ref r_0), some (.int x_1), some (.int x_2), some (.int x_3), some (.int (x_4 + 1)), some (.int x_5), some (.int x_6), some (.int x_7)]) dX12_rounds_147 (by decide) rfl (congrArg (_ + ·) ki_1) rfl ?_
    refine m_iinc (v := x_5 + 1) (ls2 := [some (.ref r_0), some (.int x_1), some (.int x_2), some (.int x_3), some (.int (x_4 + 1)), some (.int (x_5 + 1)), some (.int x_6), some (.int x_7)]) dX12_rounds_150 (by decide) rfl (congrArg (_ + ·) ki_1) rfl ?_
    refine m_goto 36 dX12_rounds_153 (by decide) ?_
    refine m_wk [6, 7] rfl ?_
    exact hF
  · replace hF := hF.2 c
    refine m_aload_n dX12_rounds_102 rfl ?_
    obtain ⟨r3, e, hF⟩ := hF
    refine m_get fg_X12_32 dX12_rounds_103 e ?_
    refine m_iload dX12_rounds_106 rfl ?_
    refine m_iconst dX12_rounds_108 ki_1 ?_
    refine m_isub dX12_rounds_109 ?_
    obtain ⟨x4, e, hF⟩ := hF
    refine m_iald dX12_rounds_110 e ?_
    refine m_iload dX12_rounds_111 rfl ?_
    refine m_icmp_ge 138 dX12_rounds_113 (by decide) (fun c => ?_) (fun c => ?_)
    · replace hF := hF.1 c
      refine m_aload_n dX12_rounds_138 rfl ?_
      obtain ⟨r5, e, hF⟩ := hF
      refine m_get fg_X12_32 dX12_rounds_139 e ?_
      refine m_iload dX12_rounds_142 rfl ?_
      refine m_iload dX12_rounds_144 rfl ?_
      obtain ⟨h6, e, hF⟩ := hF
      refine m_iast dX12_rounds_146 e ?_
      refine m_iinc (v := x_4 + 1) (ls2 := [some (.ref r_0), some (.int x_1), some (.int x_2), some (.int x_3), some (.int (x_4 + 1)), some (.int x_5), some (.int x_6), some (.int x_7)]) dX12_rounds_147 (by decide) rfl (congrArg (_ + ·) ki_1) rfl ?_
      refine m_iinc (v := x_5 + 1) (ls2 := [some (.ref r_0), some (.int x_1), some (.int x_2), some (.int x_3), some (.int (x_4 + 1)), some (.int (x_5 + 1)), some (.int x_6), some (.int x_7)]) dX12_rounds_150 (by decide) rfl (congrArg (_ + ·) ki_1) rfl ?_
      refine m_goto 36 dX12_rounds_153 (by decide) ?_
      refine m_wk [6, 7] rfl ?_
      exact hF
    · replace hF := hF.2 c
      refine m_aload_n dX12_rounds_116 rfl ?_
      obtain ⟨r7, e, hF⟩ := hF
      refine m_get fg_X12_32 dX12_rounds_117 e ?_
      refine m_iload dX12_rounds_120 rfl ?_
      refine m_aload_n dX12_rounds_122 rfl ?_
      obtain ⟨r8, e, hF⟩ := hF
      refine m_get fg_X12_32 dX12_rounds_123 e ?_
      refine m_iload dX12_rounds_126 rfl ?_
      refine m_iconst dX12_rounds_128 ki_1 ?_
      refine m_isub dX12_rounds_129 ?_
      obtain ⟨x9, e, hF⟩ := hF
      refine m_iald dX12_rounds_130 e ?_
      obtain ⟨h10, e, hF⟩ := hF
      refine m_iast dX12_rounds_131 e ?_
      refine m_iinc (v := x_7 + (-1)) (ls2 := [some (.ref r_0), some (.int x_1), some (.int x_2), some (.int x_3), some (.int x_4), some (.int x_5), some (.int x_6), some (.int (x_7 + (-1)))]) dX12_rounds_132 (by decide) rfl (congrArg (_ + ·) ki_m1) rfl ?_
      refine m_goto 97 dX12_rounds_135 (by decide) ?_
      exact hF
theorem en_X12_rounds {d : Nat} {r_0 : Nat} {x_1 : Int32} {x_2 : Int32} {h : mH} {K : Option Value → mH → Prop} (hk : Wm (d + 1) (0, 0) JX12_rounds 0 [some (.ref r_0), some (.int x_1), some (.int x_2), none, none, none, none, none] [] h (fun r h' => h'.1 0 = h.1 0 ∧ K r h')) : Ev (d + 1) (0, 0) MX12_rounds [.ref r_0, .int x_1, .int x_2] h K :=
  m_met pn_X12 nl_X12 (fun _ => Nat.le_of_ble_eq_true rfl) hk
theorem bk_X12_parts_0 {d : Nat} (r_0 : Nat) (x_1 : Int32) {h : mH} {Q : Option Value → mH → Prop} (hF : (∃ r1 : Nat, m_fld h r_0 [11] 5 = some (.ref r1) ∧ (∃ x2 : Int32, m_il h r1 x_1 = some x2 ∧ Wm (d + 1) (0, 0) JX12_parts 9 [some (.ref r_0), some (.int x_1), some (.int x2), some (.int 0), none, none, none, none, none] [] h Q))) : Wm (d + 1) (0, 0) JX12_parts 0 [some (.ref r_0), some (.int x_1), none, none, none, none, none, none, none] [] h Q := by
  refine m_aload_n dX12_parts_0 rfl ?_
  obtain ⟨r1, e, hF⟩ := hF
  refine m_get fg_X12_19 dX12_parts_1 e ?_
  refine m_iload_n dX12_parts_4 rfl ?_
  obtain ⟨x2, e, hF⟩ := hF
  refine m_iald dX12_parts_5 e ?_
  refine m_istore_n (ls2 := [some (.ref r_0), some (.int x_1), some (.int x2), none, none, none, none, none, none]) dX12_parts_6 (by decide) rfl ?_
  refine m_iconst dX12_parts_7 ki_0 ?_
  refine m_istore_n (ls2 := [some (.ref r_0), some (.int x_1), some (.int x2), some (.int 0), none, none, none, none, none]) dX12_parts_8 (by decide) rfl ?_
  exact hF
theorem bk_X12_parts_9 {d : Nat} (r_0 : Nat) (x_1 : Int32) (x_2 : Int32) (x_3 : Int32) {h : mH} {Q : Option Value → mH → Prop} (hF : ((x_2 ≤ x_3 → Wm (d + 1) (0, 0) JX12_parts 32 [some (.ref r_0), some (.int x_1), some (.int x_2), some (.int 0), some (.int 0), none, none, none, none] [] h Q) ∧ (¬ (x_2 ≤ x_3) → (∃ r1 : Nat, m_fld h r_0 [11] 10 = some (.ref r1) ∧ (∃ h2 : mH, m_is h r1 x_3 (-1) = some h2 ∧ Wm (d + 1) (0, 0) JX12_parts 9 [some (.ref r_0), some (.int x_1), some (.int x_2), some (.int (x_3 + 1)), none, none, none, none, none] [] h2 Q))))) : Wm (d + 1) (0, 0) JX12_parts 9 [some (.ref r_0), some (.int x_1), some (.int x_2), some (.int x_3), none, none, none, none, none] [] h Q := by
  refine m_iload_n dX12_parts_9 rfl ?_
  refine m_iload_n dX12_parts_10 rfl ?_
  refine m_icmp_ge 27 dX12_parts_11 (by decide) (fun c => ?_) (fun c => ?_)
  · replace hF := hF.1 c
    refine m_iconst dX12_parts_27 ki_0 ?_
    refine m_istore_n (ls2 := [some (.ref r_0), some (.int x_1), some (.int x_2), some (.int 0), none, none, none, none, none]) dX12_parts_28 (by decide) rfl ?_
    refine m_iconst dX12_parts_29 ki_0 ?_
    refine m_istore (ls2 := [some (.ref r_0), some (.int x_1), some (.int x_2), some (.int 0), some (.int 0), none, none, none, none]) dX12_parts_30 (by decide) rfl ?_
    exact hF
  · replace hF := hF.2 c
    refine m_aload_n dX12_parts_14 rfl ?_
    obtain ⟨r1, e, hF⟩ := hF
    refine m_get fg_X12_35 dX12_parts_15 e ?_
    refine m_iload_n dX12_parts_18 rfl ?_
    refine m_iconst dX12_parts_19 ki_m1 ?_
    obtain ⟨h2, e, hF⟩ := hF
    refine m_iast dX12_parts_20 e ?_
    refine m_iinc (v := x_3 + 1) (ls2 := [some (.ref r_0), some (.int x_1), some (.int x_2), some (.int (x_3 + 1)), none, none, none, none, none]) dX12_parts_21 (by decide) rfl (congrArg (_ + ·) ki_1) rfl ?_
    refine m_goto 9 dX12_parts_24 (by decide) ?_
    exact hF
theorem bk_X12_parts_32 {d : Nat} (r_0 : Nat) (x_1 : Int32) (x_2 : Int32) (x_3 : Int32) (x_4 : Int32) {h : mH} {Q : Option Value → mH → Prop} (hF : ((x_2 ≤ x_4 → Q (some (.int x_3)) h) ∧ (¬ (x_2 ≤ x_4) → (∃ r1 : Nat, m_fld h r_0 [11] 10 = some (.ref r1) ∧ (∃ x2 : Int32, m_il h r1 x_4 = some x2 ∧ ((0 ≤ x2 → Wm (d + 1) (0, 0) JX12_parts 32 [some (.ref r_0), some (.int x_1), some (.int x_2), some (.int x_3), some (.int (x_4 + 1)), none, none, none, none] [] h Q) ∧ (¬ (0 ≤ x2) → (∃ r3 : Nat, m_fld h r_0 [11] 10 = some (.ref r3) ∧ (∃ h4 : mH, m_is h r3 x_4 x_3 = some h4 ∧ Wm (d + 1) (0, 0) JX12_parts 59 [some (.ref r_0), some (.int x_1), some (.int x_2), some (.int x_3), some (.int x_4), some (.int 1), none, none, none] [] h4 Q))))))))) : Wm (d + 1) (0, 0) JX12_parts 32 [some (.ref r_0), some (.int x_1), some (.int x_2), some (.int x_3), some (.int x_4), none, none, none, none] [] h Q := by
  refine m_iload dX12_parts_32 rfl ?_
  refine m_iload_n dX12_parts_34 rfl ?_
  refine m_icmp_ge 158 dX12_parts_35 (by decide) (fun c => ?_) (fun c => ?_)
  · replace hF := hF.1 c
    refine m_iload_n dX12_parts_158 rfl ?_
    exact m_ireturn dX12_parts_159 trivial hF
  · replace hF := hF.2 c
    refine m_aload_n dX12_parts_38 rfl ?_
    obtain ⟨r1, e, hF⟩ := hF
    refine m_get fg_X12_35 dX12_parts_39 e ?_
    refine m_iload dX12_parts_42 rfl ?_
    obtain ⟨x2, e, hF⟩ := hF
    refine m_iald dX12_parts_44 e ?_
    refine m_if_ge 152 dX12_parts_45 (by decide) (fun c => ?_) (fun c => ?_)
    · replace hF := hF.1 c
      refine m_iinc (v := x_4 + 1) (ls2 := [some (.ref r_0), some (.int x_1), some (.int x_2), some (.int x_3), some (.int (x_4 + 1)), none, none, none, none]) dX12_parts_152 (by decide) rfl (congrArg (_ + ·) ki_1) rfl ?_
      refine m_goto 32 dX12_parts_155 (by decide) ?_
      exact hF
    · replace hF := hF.2 c
      refine m_aload_n dX12_parts_48 rfl ?_
      obtain ⟨r3, e, hF⟩ := hF
      refine m_get fg_X12_35 dX12_parts_49 e ?_
      refine m_iload dX12_parts_52 rfl ?_
      refine m_iload_n dX12_parts_54 rfl ?_
      obtain ⟨h4, e, hF⟩ := hF
      refine m_iast dX12_parts_55 e ?_
      refine m_iconst dX12_parts_56 ki_1 ?_
      refine m_istore (ls2 := [some (.ref r_0), some (.int x_1), some (.int x_2), some (.int x_3), some (.int x_4), some (.int 1), none, none, none]) dX12_parts_57 (by decide) rfl ?_
      exact hF
theorem bk_X12_parts_59 {d : Nat} (r_0 : Nat) (x_1 : Int32) (x_2 : Int32) (x_3 : Int32) (x_4 : Int32) (x_5 : Int32) {h : mH} {Q : Option Value → mH → Prop} (hF : ((x_5 = 0 → Wm (d + 1) (0, 0) JX12_parts 32 [some (.ref r_0), some (.int x_1), some (.int x_2), some (.int (x_3 + 1)), some (.int (x_4 + 1)), none, none, none, none] [] h Q) ∧ (¬ (x_5 = 0) → Wm (d + 1) (0, 0) JX12_parts 70 [some (.ref r_0), some (.int x_1), some (.int x_2), some (.int x_3), some (.int x_4), some (.int 0), some (.int 0), none, none] [] h Q))) : Wm (d + 1) (0, 0) JX12_parts 59 [some (.ref r_0), some (.int x_1), some (.int x_2), some (.int x_3), some (.int x_4), some (.int x_5), none, none, none] [] h Q := by
  refine m_iload dX12_parts_59 rfl ?_
  refine m_if_eq 149 dX12_parts_61 (by decide) (fun c => ?_) (fun c => ?_)
  · replace hF := hF.1 c
    refine m_iinc (v := x_3 + 1) (ls2 := [some (.ref r_0), some (.int x_1), some (.int x_2), some (.int (x_3 + 1)), some (.int x_4), some (.int x_5), none, none, none]) dX12_parts_149 (by decide) rfl (congrArg (_ + ·) ki_1) rfl ?_
    refine m_iinc (v := x_4 + 1) (ls2 := [some (.ref r_0), some (.int x_1), some (.int x_2), some (.int (x_3 + 1)), some (.int (x_4 + 1)), some (.int x_5), none, none, none]) dX12_parts_152 (by decide) rfl (congrArg (_ + ·) ki_1) rfl ?_
    refine m_goto 32 dX12_parts_155 (by decide) ?_
    refine m_wk [5] rfl ?_
    exact hF
  · replace hF := hF.2 c
    refine m_iconst dX12_parts_64 ki_0 ?_
    refine m_istore (ls2 := [some (.ref r_0), some (.int x_1), some (.int x_2), some (.int x_3), some (.int x_4), some (.int 0), none, none, none]) dX12_parts_65 (by decide) rfl ?_
    refine m_iconst dX12_parts_67 ki_0 ?_
    refine m_istore (ls2 := [some (.ref r_0), some (.int x_1), some (.int x_2), some (.int x_3), some (.int x_4), some (.int 0), some (.int 0), none, none]) dX12_parts_68 (by decide) rfl ?_
    exact hF
theorem bk_X12_parts_70 {d : Nat} (r_0 : Nat) (x_1 : Int32) (x_2 : Int32) (x_3 : Int32) (x_4 : Int32) (x_5 : Int32) (x_6 : Int32) {h : mH} {Q : Option Value → mH → Prop} (hF : ((x_2 ≤ x_6 → Wm (d + 1) (0, 0) JX12_parts 59 [some (.ref r_0), some (.int x_1), some (.int x_2), some (.int x_3), some (.int x_4), some (.int x_5), none, none, none] [] h Q) ∧ (¬ (x_2 ≤ x_6) → Wm (d + 1) (0, 0) JX12_parts 79 [some (.ref r_0), some (.int x_1), some (.int x_2), some (.int x_3), some (.int x_4), some (.int x_5), some (.int x_6), some (.int 0), none] [] h Q))) : Wm (d + 1) (0, 0) JX12_parts 70 [some (.ref r_0), some (.int x_1), some (.int x_2), some (.int x_3), some (.int x_4), some (.int x_5), some (.int x_6), none, none] [] h Q := by
  refine m_iload dX12_parts_70 rfl ?_
  refine m_iload_n dX12_parts_72 rfl ?_
  refine m_icmp_ge 146 dX12_parts_73 (by decide) (fun c => ?_) (fun c => ?_)
  · replace hF := hF.1 c
    refine m_goto 59 dX12_parts_146 (by decide) ?_
    refine m_wk [6] rfl ?_
    exact hF
  · replace hF := hF.2 c
    refine m_iconst dX12_parts_76 ki_0 ?_
    refine m_istore (ls2 := [some (.ref r_0), some (.int x_1), some (.int x_2), some (.int x_3), some (.int x_4), some (.int x_5), some (.int x_6), some (.int 0), none]) dX12_parts_77 (by decide) rfl ?_
    exact hF
theorem bk_X12_parts_79 {d : Nat} (r_0 : Nat) (x_1 : Int32) (x_2 : Int32) (x_3 : Int32) (x_4 : Int32) (x_5 : Int32) (x_6 : Int32) (x_7 : Int32) {h : mH} {Q : Option Value → mH → Prop} (hF : (∃ r1 : Nat, m_fld h r_0 [11] 6 = some (.ref r1) ∧ (∃ x2 : Int32, m_il h r1 x_1 = some x2 ∧ ((x2 ≤ x_7 → Wm (d + 1) (0, 0) JX12_parts 70 [some (.ref r_0), some (.int x_1), some (.int x_2), some (.int x_3), some (.int x_4), some (.int x_5), some (.int (x_6 + 1)), none, none] [] h Q) ∧ (¬ (x2 ≤ x_7) → (∃ fs12 : List Value, (h).1 r_0 = .inr (11, fs12) ∧ Ev d (0, 0) MX12_at [.ref r_0, .int x_1, .int x_7, .int x_6] h (fun r3 h4 => ∃ x5 : Int32, r3 = some (.int x5) ∧ (∃ r6 : Nat, m_fld h4 r_0 [11] 10 = some (.ref r6) ∧ (∃ x7 : Int32, m_il h4 r6 x_6 = some x7 ∧ ((¬ x7 = x_3 → Wm (d + 1) (0, 0) JX12_parts 79 [some (.ref r_0), some (.int x_1), some (.int x_2), some (.int x_3), some (.int x_4), some (.int x_5), some (.int x_6), some (.int (x_7 + 1)), none] [] h4 Q) ∧ (x7 = x_3 → (∃ r8 : Nat, m_fld h4 r_0 [11] 10 = some (.ref r8) ∧ (∃ x9 : Int32, m_il h4 r8 x5 = some x9 ∧ ((x9 = x_3 → Wm (d + 1) (0, 0) JX12_parts 79 [some (.ref r_0), some (.int x_1), some (.int x_2), some (.int x_3), some (.int x_4), some (.int x_5), some (.int x_6), some (.int (x_7 + 1)), none] [] h4 Q) ∧ (¬ (x9 = x_3) → (∃ r10 : Nat, m_fld h4 r_0 [11] 10 = some (.ref r10) ∧ (∃ h11 : mH, m_is h4 r10 x5 x_3 = some h11 ∧ Wm (d + 1) (0, 0) JX12_parts 79 [some (.ref r_0), some (.int x_1), some (.int x_2), some (.int x_3), some (.int x_4), some (.int 1), some (.int x_6), some (.int (x_7 + 1)), none] [] h11 Q))))))))))))))))) : Wm (d + 1) (0, 0) JX12_parts 79 [some (.ref r_0), some (.int x_1), some (.int x_2), some (.int x_3), some (.int x_4), some (.int x_5), some (.int x_6), some (.int x_7), none] [] h Q := by
  refine m_iload dX12_parts_79 rfl ?_
  refine m_aload_n dX12_parts_81 rfl ?_
  obtain ⟨r1, e, hF⟩ := hF
  refine m_get fg_X12_22 dX12_parts_82 e ?_
  refine m_iload_n dX12_parts_85 rfl ?_
  obtain ⟨x2, e, hF⟩ := hF
  refine m_iald dX12_parts_86 e ?_
  refine m_icmp_ge 140 dX12_parts_87 (by decide) (fun c => ?_) (fun c => ?_)
  · replace hF := hF.1 c
    refine m_iinc (v := x_6 + 1) (ls2 := [some (.ref r_0), some (.int x_1), some (.int x_2), some (.int x_3), some (.int x_4), some (.int x_5), some (.int (x_6 + 1)), some (.int x_7), none]) dX12_parts_140 (by decide) rfl (congrArg (_ + ·) ki_1) rfl ?_
    refine m_goto 70 dX12_parts_143 (by decide) ?_
    refine m_wk [7] rfl ?_
    exact hF
  · replace hF := hF.2 c
    refine m_aload_n dX12_parts_90 rfl ?_
    refine m_iload_n dX12_parts_91 rfl ?_
    refine m_iload dX12_parts_92 rfl ?_
    refine m_iload dX12_parts_94 rfl ?_
    obtain ⟨fs12, e, hF⟩ := hF
    refine m_virtual (as := [.int x_1, .int x_7, .int x_6]) (rest := []) cv_X12_105_11 e dX12_parts_96 rfl rfl (Nat.le_of_ble_eq_true rfl) (Nat.le_of_eq (Nat.zero_add _)) (Nat.le_of_eq (Nat.zero_add _)) (b1 := (0, 0)) (b2 := (0, 0)) (Ev.mono hF ?_)
    intro r3 h4 hF
    obtain ⟨x5, rfl, hF⟩ := hF
    refine m_istore (ls2 := [some (.ref r_0), some (.int x_1), some (.int x_2), some (.int x_3), some (.int x_4), some (.int x_5), some (.int x_6), some (.int x_7), some (.int x5)]) dX12_parts_99 (by decide) rfl ?_
    refine m_aload_n dX12_parts_101 rfl ?_
    obtain ⟨r6, e, hF⟩ := hF
    refine m_get fg_X12_35 dX12_parts_102 e ?_
    refine m_iload dX12_parts_105 rfl ?_
    obtain ⟨x7, e, hF⟩ := hF
    refine m_iald dX12_parts_107 e ?_
    refine m_iload_n dX12_parts_108 rfl ?_
    refine m_icmp_ne 134 dX12_parts_109 (by decide) (fun c => ?_) (fun c => ?_)
    · replace hF := hF.1 c
      refine m_iinc (v := x_7 + 1) (ls2 := [some (.ref r_0), some (.int x_1), some (.int x_2), some (.int x_3), some (.int x_4), some (.int x_5), some (.int x_6), some (.int (x_7 + 1)), some (.int x5)]) dX12_parts_134 (by decide) rfl (congrArg (_ + ·) ki_1) rfl ?_
      refine m_goto 79 dX12_parts_137 (by decide) ?_
      refine m_wk [8] rfl ?_
      exact hF
    · replace hF := hF.2 c
      refine m_aload_n dX12_parts_112 rfl ?_
      obtain ⟨r8, e, hF⟩ := hF
      refine m_get fg_X12_35 dX12_parts_113 e ?_
      refine m_iload dX12_parts_116 rfl ?_
      obtain ⟨x9, e, hF⟩ := hF
      refine m_iald dX12_parts_118 e ?_
      refine m_iload_n dX12_parts_119 rfl ?_
      refine m_icmp_eq 134 dX12_parts_120 (by decide) (fun c => ?_) (fun c => ?_)
      · replace hF := hF.1 c
        refine m_iinc (v := x_7 + 1) (ls2 := [some (.ref r_0), some (.int x_1), some (.int x_2), some (.int x_3), some (.int x_4), some (.int x_5), some (.int x_6), some (.int (x_7 + 1)), some (.int x5)]) dX12_parts_134 (by decide) rfl (congrArg (_ + ·) ki_1) rfl ?_
        refine m_goto 79 dX12_parts_137 (by decide) ?_
        refine m_wk [8] rfl ?_
        exact hF
      · replace hF := hF.2 c
        refine m_aload_n dX12_parts_123 rfl ?_
        obtain ⟨r10, e, hF⟩ := hF
        refine m_get fg_X12_35 dX12_parts_124 e ?_
        refine m_iload dX12_parts_127 rfl ?_
        refine m_iload_n dX12_parts_129 rfl ?_
        obtain ⟨h11, e, hF⟩ := hF
        refine m_iast dX12_parts_130 e ?_
        refine m_iconst dX12_parts_131 ki_1 ?_
        refine m_istore (ls2 := [some (.ref r_0), some (.int x_1), some (.int x_2), some (.int x_3), some (.int x_4), some (.int 1), some (.int x_6), some (.int x_7), some (.int x5)]) dX12_parts_132 (by decide) rfl ?_
        refine m_iinc (v := x_7 + 1) (ls2 := [some (.ref r_0), some (.int x_1), some (.int x_2), some (.int x_3), some (.int x_4), some (.int 1), some (.int x_6), some (.int (x_7 + 1)), some (.int x5)]) dX12_parts_134 (by decide) rfl (congrArg (_ + ·) ki_1) rfl ?_
        refine m_goto 79 dX12_parts_137 (by decide) ?_
        refine m_wk [8] rfl ?_
        exact hF
theorem en_X12_parts {d : Nat} {r_0 : Nat} {x_1 : Int32} {h : mH} {K : Option Value → mH → Prop} (hk : Wm (d + 1) (0, 0) JX12_parts 0 [some (.ref r_0), some (.int x_1), none, none, none, none, none, none, none] [] h (fun r h' => h'.1 0 = h.1 0 ∧ K r h')) : Ev (d + 1) (0, 0) MX12_parts [.ref r_0, .int x_1] h K :=
  m_met pn_X12 nl_X12 (fun _ => Nat.le_of_ble_eq_true rfl) hk
theorem bk_X12_kindOf_0 {d : Nat} (r_0 : Nat) (x_1 : Int32) {h : mH} {Q : Option Value → mH → Prop} (hF : (∃ r1 : Nat, m_fld h r_0 [11] 5 = some (.ref r1) ∧ (∃ x2 : Int32, m_il h r1 x_1 = some x2 ∧ (∃ r3 : Nat, m_fld h r_0 [11] 6 = some (.ref r3) ∧ (∃ x4 : Int32, m_il h r3 x_1 = some x4 ∧ ((¬ x4 = 3 → ((x4 ≤ 1 → Wm (d + 1) (0, 0) JX12_kindOf 121 [some (.ref r_0), some (.int x_1), some (.int x2), some (.int x4), some (.int 0), some (.int 0), none] [] h Q) ∧ (¬ (x4 ≤ 1) → Wm (d + 1) (0, 0) JX12_kindOf 121 [some (.ref r_0), some (.int x_1), some (.int x2), some (.int x4), some (.int 1), some (.int 0), none] [] h Q))) ∧ (x4 = 3 → Wm (d + 1) (0, 0) JX12_kindOf 25 [some (.ref r_0), some (.int x_1), some (.int x2), none, some (.int 1), some (.int 0), none] [] h Q))))))) : Wm (d + 1) (0, 0) JX12_kindOf 0 [some (.ref r_0), some (.int x_1), none, none, none, none, none] [] h Q := by
  refine m_aload_n dX12_kindOf_0 rfl ?_
  obtain ⟨r1, e, hF⟩ := hF
  refine m_get fg_X12_19 dX12_kindOf_1 e ?_
  refine m_iload_n dX12_kindOf_4 rfl ?_
  obtain ⟨x2, e, hF⟩ := hF
  refine m_iald dX12_kindOf_5 e ?_
  refine m_istore_n (ls2 := [some (.ref r_0), some (.int x_1), some (.int x2), none, none, none, none]) dX12_kindOf_6 (by decide) rfl ?_
  refine m_aload_n dX12_kindOf_7 rfl ?_
  obtain ⟨r3, e, hF⟩ := hF
  refine m_get fg_X12_22 dX12_kindOf_8 e ?_
  refine m_iload_n dX12_kindOf_11 rfl ?_
  obtain ⟨x4, e, hF⟩ := hF
  refine m_iald dX12_kindOf_12 e ?_
  refine m_istore_n (ls2 := [some (.ref r_0), some (.int x_1), some (.int x2), some (.int x4), none, none, none]) dX12_kindOf_13 (by decide) rfl ?_
  refine m_iload_n dX12_kindOf_14 rfl ?_
  refine m_iconst dX12_kindOf_15 ki_3 ?_
  refine m_icmp_ne 106 dX12_kindOf_16 (by decide) (fun c => ?_) (fun c => ?_)
  · replace hF := hF.1 c
    refine m_iload_n dX12_kindOf_106 rfl ?_
    refine m_iconst dX12_kindOf_107 ki_1 ?_
    refine m_icmp_le 115 dX12_kindOf_108 (by decide) (fun c => ?_) (fun c => ?_)
    · replace hF := hF.1 c
      refine m_iconst dX12_kindOf_115 ki_0 ?_
      refine m_istore (ls2 := [some (.ref r_0), some (.int x_1), some (.int x2), some (.int x4), some (.int 0), none, none]) dX12_kindOf_116 (by decide) rfl ?_
      refine m_iconst dX12_kindOf_118 ki_0 ?_
      refine m_istore (ls2 := [some (.ref r_0), some (.int x_1), some (.int x2), some (.int x4), some (.int 0), some (.int 0), none]) dX12_kindOf_119 (by decide) rfl ?_
      exact hF
    · replace hF := hF.2 c
      refine m_iconst dX12_kindOf_111 ki_1 ?_
      refine m_goto 116 dX12_kindOf_112 (by decide) ?_
      refine m_istore (ls2 := [some (.ref r_0), some (.int x_1), some (.int x2), some (.int x4), some (.int 1), none, none]) dX12_kindOf_116 (by decide) rfl ?_
      refine m_iconst dX12_kindOf_118 ki_0 ?_
      refine m_istore (ls2 := [some (.ref r_0), some (.int x_1), some (.int x2), some (.int x4), some (.int 1), some (.int 0), none]) dX12_kindOf_119 (by decide) rfl ?_
      exact hF
  · replace hF := hF.2 c
    refine m_iconst dX12_kindOf_19 ki_1 ?_
    refine m_istore (ls2 := [some (.ref r_0), some (.int x_1), some (.int x2), some (.int x4), some (.int 1), none, none]) dX12_kindOf_20 (by decide) rfl ?_
    refine m_iconst dX12_kindOf_22 ki_0 ?_
    refine m_istore (ls2 := [some (.ref r_0), some (.int x_1), some (.int x2), some (.int x4), some (.int 1), some (.int 0), none]) dX12_kindOf_23 (by decide) rfl ?_
    refine m_wk [3] rfl ?_
    exact hF
theorem bk_X12_kindOf_121 {d : Nat} (r_0 : Nat) (x_1 : Int32) (x_2 : Int32) (x_3 : Int32) (x_4 : Int32) (x_5 : Int32) {h : mH} {Q : Option Value → mH → Prop} (hF : ((x_3 ≤ (x_5 + 1) → ((x_4 = 0 → Q (some (.int 0)) h) ∧ (¬ (x_4 = 0) → Q (some (.int 1)) h))) ∧ (¬ (x_3 ≤ (x_5 + 1)) → (∃ fs4 : List Value, (h).1 r_0 = .inr (11, fs4) ∧ Ev d (0, 0) MX12_rounds [.ref r_0, .int x_1, .int x_5] h (fun r1 h2 => ∃ x3 : Int32, r1 = some (.int x3) ∧ ((x_4 = 0 → Wm (d + 1) (0, 0) JX12_kindOf 121 [some (.ref r_0), some (.int x_1), some (.int x_2), some (.int x_3), some (.int 0), some (.int (x_5 + 1)), none] [] h2 Q) ∧ (¬ (x_4 = 0) → ((¬ x3 = (x_2 - 1) → Wm (d + 1) (0, 0) JX12_kindOf 121 [some (.ref r_0), some (.int x_1), some (.int x_2), some (.int x_3), some (.int 0), some (.int (x_5 + 1)), none] [] h2 Q) ∧ (x3 = (x_2 - 1) → Wm (d + 1) (0, 0) JX12_kindOf 121 [some (.ref r_0), some (.int x_1), some (.int x_2), some (.int x_3), some (.int 1), some (.int (x_5 + 1)), none] [] h2 Q))))))))) : Wm (d + 1) (0, 0) JX12_kindOf 121 [some (.ref r_0), some (.int x_1), some (.int x_2), some (.int x_3), some (.int x_4), some (.int x_5), none] [] h Q := by
  refine m_iload dX12_kindOf_121 rfl ?_
  refine m_iconst dX12_kindOf_123 ki_1 ?_
  refine m_iadd dX12_kindOf_124 ?_
  refine m_iload_n dX12_kindOf_125 rfl ?_
  refine m_icmp_ge 164 dX12_kindOf_126 (by decide) (fun c => ?_) (fun c => ?_)
  · replace hF := hF.1 c
    refine m_iload dX12_kindOf_164 rfl ?_
    refine m_if_eq 173 dX12_kindOf_166 (by decide) (fun c => ?_) (fun c => ?_)
    · replace hF := hF.1 c
      refine m_iconst dX12_kindOf_173 ki_0 ?_
      exact m_ireturn dX12_kindOf_174 trivial hF
    · replace hF := hF.2 c
      refine m_iconst dX12_kindOf_169 ki_1 ?_
      refine m_goto 174 dX12_kindOf_170 (by decide) ?_
      exact m_ireturn dX12_kindOf_174 trivial hF
  · replace hF := hF.2 c
    refine m_aload_n dX12_kindOf_129 rfl ?_
    refine m_iload_n dX12_kindOf_130 rfl ?_
    refine m_iload dX12_kindOf_131 rfl ?_
    obtain ⟨fs4, e, hF⟩ := hF
    refine m_virtual (as := [.int x_1, .int x_5]) (rest := []) cv_X12_109_11 e dX12_kindOf_133 rfl rfl (Nat.le_of_ble_eq_true rfl) (Nat.le_of_eq (Nat.zero_add _)) (Nat.le_of_eq (Nat.zero_add _)) (b1 := (0, 0)) (b2 := (0, 0)) (Ev.mono hF ?_)
    intro r1 h2 hF
    obtain ⟨x3, rfl, hF⟩ := hF
    refine m_istore (ls2 := [some (.ref r_0), some (.int x_1), some (.int x_2), some (.int x_3), some (.int x_4), some (.int x_5), some (.int x3)]) dX12_kindOf_136 (by decide) rfl ?_
    refine m_iload dX12_kindOf_138 rfl ?_
    refine m_if_eq 155 dX12_kindOf_140 (by decide) (fun c => ?_) (fun c => ?_)
    · replace hF := hF.1 c
      refine m_iconst dX12_kindOf_155 ki_0 ?_
      refine m_istore (ls2 := [some (.ref r_0), some (.int x_1), some (.int x_2), some (.int x_3), some (.int 0), some (.int x_5), some (.int x3)]) dX12_kindOf_156 (by decide) rfl ?_
      refine m_iinc (v := x_5 + 1) (ls2 := [some (.ref r_0), some (.int x_1), some (.int x_2), some (.int x_3), some (.int 0), some (.int (x_5 + 1)), some (.int x3)]) dX12_kindOf_158 (by decide) rfl (congrArg (_ + ·) ki_1) rfl ?_
      refine m_goto 121 dX12_kindOf_161 (by decide) ?_
      refine m_wk [6] rfl ?_
      exact hF
    · replace hF := hF.2 c
      refine m_iload dX12_kindOf_143 rfl ?_
      refine m_iload_n dX12_kindOf_145 rfl ?_
      refine m_iconst dX12_kindOf_146 ki_1 ?_
      refine m_isub dX12_kindOf_147 ?_
      refine m_icmp_ne 155 dX12_kindOf_148 (by decide) (fun c => ?_) (fun c => ?_)
      · replace hF := hF.1 c
        refine m_iconst dX12_kindOf_155 ki_0 ?_
        refine m_istore (ls2 := [some (.ref r_0), some (.int x_1), some (.int x_2), some (.int x_3), some (.int 0), some (.int x_5), some (.int x3)]) dX12_kindOf_156 (by decide) rfl ?_
        refine m_iinc (v := x_5 + 1) (ls2 := [some (.ref r_0), some (.int x_1), some (.int x_2), some (.int x_3), some (.int 0), some (.int (x_5 + 1)), some (.int x3)]) dX12_kindOf_158 (by decide) rfl (congrArg (_ + ·) ki_1) rfl ?_
        refine m_goto 121 dX12_kindOf_161 (by decide) ?_
        refine m_wk [6] rfl ?_
        exact hF
      · replace hF := hF.2 c
        refine m_iconst dX12_kindOf_151 ki_1 ?_
        refine m_goto 156 dX12_kindOf_152 (by decide) ?_
        refine m_istore (ls2 := [some (.ref r_0), some (.int x_1), some (.int x_2), some (.int x_3), some (.int 1), some (.int x_5), some (.int x3)]) dX12_kindOf_156 (by decide) rfl ?_
        refine m_iinc (v := x_5 + 1) (ls2 := [some (.ref r_0), some (.int x_1), some (.int x_2), some (.int x_3), some (.int 1), some (.int (x_5 + 1)), some (.int x3)]) dX12_kindOf_158 (by decide) rfl (congrArg (_ + ·) ki_1) rfl ?_
        refine m_goto 121 dX12_kindOf_161 (by decide) ?_
        refine m_wk [6] rfl ?_
        exact hF
theorem bk_X12_kindOf_25 {d : Nat} (r_0 : Nat) (x_1 : Int32) (x_2 : Int32) (x_4 : Int32) (x_5 : Int32) {h : mH} {Q : Option Value → mH → Prop} (hF : ((x_2 ≤ x_5 → ((x_4 = 0 → Q (some (.int 2)) h) ∧ (¬ (x_4 = 0) → (∃ fs4 : List Value, (h).1 r_0 = .inr (11, fs4) ∧ Ev d (0, 0) MX12_rounds [.ref r_0, .int x_1, .int 1] h (fun r1 h2 => ∃ x3 : Int32, r1 = some (.int x3) ∧ ((¬ x3 = 1 → Q (some (.int 3)) h2) ∧ (x3 = 1 → Q (some (.int 4)) h2))))))) ∧ (¬ (x_2 ≤ x_5) → ((x_4 = 0 → Wm (d + 1) (0, 0) JX12_kindOf 25 [some (.ref r_0), some (.int x_1), some (.int x_2), none, some (.int 0), some (.int (x_5 + 1)), none] [] h Q) ∧ (¬ (x_4 = 0) → (∃ fs16 : List Value, (h).1 r_0 = .inr (11, fs16) ∧ Ev d (0, 0) MX12_at [.ref r_0, .int x_1, .int 2, .int x_5] h (fun r5 h6 => ∃ x7 : Int32, r5 = some (.int x7) ∧ ((x7 = x_5 → Wm (d + 1) (0, 0) JX12_kindOf 25 [some (.ref r_0), some (.int x_1), some (.int x_2), none, some (.int 0), some (.int (x_5 + 1)), none] [] h6 Q) ∧ (¬ (x7 = x_5) → (∃ fs15 : List Value, (h6).1 r_0 = .inr (11, fs15) ∧ Ev d (0, 0) MX12_at [.ref r_0, .int x_1, .int 2, .int x_5] h6 (fun r8 h9 => ∃ x10 : Int32, r8 = some (.int x10) ∧ (∃ fs14 : List Value, (h9).1 r_0 = .inr (11, fs14) ∧ Ev d (0, 0) MX12_at [.ref r_0, .int x_1, .int 2, .int x10] h9 (fun r11 h12 => ∃ x13 : Int32, r11 = some (.int x13) ∧ ((¬ x13 = x_5 → Wm (d + 1) (0, 0) JX12_kindOf 25 [some (.ref r_0), some (.int x_1), some (.int x_2), none, some (.int 0), some (.int (x_5 + 1)), none] [] h12 Q) ∧ (x13 = x_5 → Wm (d + 1) (0, 0) JX12_kindOf 25 [some (.ref r_0), some (.int x_1), some (.int x_2), none, some (.int 1), some (.int (x_5 + 1)), none] [] h12 Q))))))))))))))) : Wm (d + 1) (0, 0) JX12_kindOf 25 [some (.ref r_0), some (.int x_1), some (.int x_2), none, some (.int x_4), some (.int x_5), none] [] h Q := by
  refine m_iload dX12_kindOf_25 rfl ?_
  refine m_iload_n dX12_kindOf_27 rfl ?_
  refine m_icmp_ge 81 dX12_kindOf_28 (by decide) (fun c => ?_) (fun c => ?_)
  · replace hF := hF.1 c
    refine m_iload dX12_kindOf_81 rfl ?_
    refine m_if_eq 104 dX12_kindOf_83 (by decide) (fun c => ?_) (fun c => ?_)
    · replace hF := hF.1 c
      refine m_iconst dX12_kindOf_104 ki_2 ?_
      exact m_ireturn dX12_kindOf_105 trivial hF
    · replace hF := hF.2 c
      refine m_aload_n dX12_kindOf_86 rfl ?_
      refine m_iload_n dX12_kindOf_87 rfl ?_
      refine m_iconst dX12_kindOf_88 ki_1 ?_
      obtain ⟨fs4, e, hF⟩ := hF
      refine m_virtual (as := [.int x_1, .int 1]) (rest := []) cv_X12_109_11 e dX12_kindOf_89 rfl rfl (Nat.le_of_ble_eq_true rfl) (Nat.le_of_eq (Nat.zero_add _)) (Nat.le_of_eq (Nat.zero_add _)) (b1 := (0, 0)) (b2 := (0, 0)) (Ev.mono hF ?_)
      intro r1 h2 hF
      obtain ⟨x3, rfl, hF⟩ := hF
      refine m_iconst dX12_kindOf_92 ki_1 ?_
      refine m_icmp_ne 100 dX12_kindOf_93 (by decide) (fun c => ?_) (fun c => ?_)
      · replace hF := hF.1 c
        refine m_iconst dX12_kindOf_100 ki_3 ?_
        refine m_goto 105 dX12_kindOf_101 (by decide) ?_
        exact m_ireturn dX12_kindOf_105 trivial hF
      · replace hF := hF.2 c
        refine m_iconst dX12_kindOf_96 ki_4 ?_
        refine m_goto 105 dX12_kindOf_97 (by decide) ?_
        exact m_ireturn dX12_kindOf_105 trivial hF
  · replace hF := hF.2 c
    refine m_iload dX12_kindOf_31 rfl ?_
    refine m_if_eq 72 dX12_kindOf_33 (by decide) (fun c => ?_) (fun c => ?_)
    · replace hF := hF.1 c
      refine m_iconst dX12_kindOf_72 ki_0 ?_
      refine m_istore (ls2 := [some (.ref r_0), some (.int x_1), some (.int x_2), none, some (.int 0), some (.int x_5), none]) dX12_kindOf_73 (by decide) rfl ?_
      refine m_iinc (v := x_5 + 1) (ls2 := [some (.ref r_0), some (.int x_1), some (.int x_2), none, some (.int 0), some (.int (x_5 + 1)), none]) dX12_kindOf_75 (by decide) rfl (congrArg (_ + ·) ki_1) rfl ?_
      refine m_goto 25 dX12_kindOf_78 (by decide) ?_
      exact hF
    · replace hF := hF.2 c
      refine m_aload_n dX12_kindOf_36 rfl ?_
      refine m_iload_n dX12_kindOf_37 rfl ?_
      refine m_iconst dX12_kindOf_38 ki_2 ?_
      refine m_iload dX12_kindOf_39 rfl ?_
      obtain ⟨fs16, e, hF⟩ := hF
      refine m_virtual (as := [.int x_1, .int 2, .int x_5]) (rest := []) cv_X12_105_11 e dX12_kindOf_41 rfl rfl (Nat.le_of_ble_eq_true rfl) (Nat.le_of_eq (Nat.zero_add _)) (Nat.le_of_eq (Nat.zero_add _)) (b1 := (0, 0)) (b2 := (0, 0)) (Ev.mono hF ?_)
      intro r5 h6 hF
      obtain ⟨x7, rfl, hF⟩ := hF
      refine m_iload dX12_kindOf_44 rfl ?_
      refine m_icmp_eq 72 dX12_kindOf_46 (by decide) (fun c => ?_) (fun c => ?_)
      · replace hF := hF.1 c
        refine m_iconst dX12_kindOf_72 ki_0 ?_
        refine m_istore (ls2 := [some (.ref r_0), some (.int x_1), some (.int x_2), none, some (.int 0), some (.int x_5), none]) dX12_kindOf_73 (by decide) rfl ?_
        refine m_iinc (v := x_5 + 1) (ls2 := [some (.ref r_0), some (.int x_1), some (.int x_2), none, some (.int 0), some (.int (x_5 + 1)), none]) dX12_kindOf_75 (by decide) rfl (congrArg (_ + ·) ki_1) rfl ?_
        refine m_goto 25 dX12_kindOf_78 (by decide) ?_
        exact hF
      · replace hF := hF.2 c
        refine m_aload_n dX12_kindOf_49 rfl ?_
        refine m_iload_n dX12_kindOf_50 rfl ?_
        refine m_iconst dX12_kindOf_51 ki_2 ?_
        refine m_aload_n dX12_kindOf_52 rfl ?_
        refine m_iload_n dX12_kindOf_53 rfl ?_
        refine m_iconst dX12_kindOf_54 ki_2 ?_
        refine m_iload dX12_kindOf_55 rfl ?_
        obtain ⟨fs15, e, hF⟩ := hF
        refine m_virtual (as := [.int x_1, .int 2, .int x_5]) (rest := [.int 2, .int x_1, .ref r_0]) cv_X12_105_11 e dX12_kindOf_57 rfl rfl (Nat.le_of_ble_eq_true rfl) (Nat.le_of_eq (Nat.zero_add _)) (Nat.le_of_eq (Nat.zero_add _)) (b1 := (0, 0)) (b2 := (0, 0)) (Ev.mono hF ?_)
        intro r8 h9 hF
        obtain ⟨x10, rfl, hF⟩ := hF
        obtain ⟨fs14, e, hF⟩ := hF
        refine m_virtual (as := [.int x_1, .int 2, .int x10]) (rest := []) cv_X12_105_11 e dX12_kindOf_60 rfl rfl (Nat.le_of_ble_eq_true rfl) (Nat.le_of_eq (Nat.zero_add _)) (Nat.le_of_eq (Nat.zero_add _)) (b1 := (0, 0)) (b2 := (0, 0)) (Ev.mono hF ?_)
        intro r11 h12 hF
        obtain ⟨x13, rfl, hF⟩ := hF
        refine m_iload dX12_kindOf_63 rfl ?_
        refine m_icmp_ne 72 dX12_kindOf_65 (by decide) (fun c => ?_) (fun c => ?_)
        · replace hF := hF.1 c
          refine m_iconst dX12_kindOf_72 ki_0 ?_
          refine m_istore (ls2 := [some (.ref r_0), some (.int x_1), some (.int x_2), none, some (.int 0), some (.int x_5), none]) dX12_kindOf_73 (by decide) rfl ?_
          refine m_iinc (v := x_5 + 1) (ls2 := [some (.ref r_0), some (.int x_1), some (.int x_2), none, some (.int 0), some (.int (x_5 + 1)), none]) dX12_kindOf_75 (by decide) rfl (congrArg (_ + ·) ki_1) rfl ?_
          refine m_goto 25 dX12_kindOf_78 (by decide) ?_
          exact hF
        · replace hF := hF.2 c
          refine m_iconst dX12_kindOf_68 ki_1 ?_
          refine m_goto 73 dX12_kindOf_69 (by decide) ?_
          refine m_istore (ls2 := [some (.ref r_0), some (.int x_1), some (.int x_2), none, some (.int 1), some (.int x_5), none]) dX12_kindOf_73 (by decide) rfl ?_
          refine m_iinc (v := x_5 + 1) (ls2 := [some (.ref r_0), some (.int x_1), some (.int x_2), none, some (.int 1), some (.int (x_5 + 1)), none]) dX12_kindOf_75 (by decide) rfl (congrArg (_ + ·) ki_1) rfl ?_
          refine m_goto 25 dX12_kindOf_78 (by decide) ?_
          exact hF
theorem en_X12_kindOf {d : Nat} {r_0 : Nat} {x_1 : Int32} {h : mH} {K : Option Value → mH → Prop} (hk : Wm (d + 1) (0, 0) JX12_kindOf 0 [some (.ref r_0), some (.int x_1), none, none, none, none, none] [] h (fun r h' => h'.1 0 = h.1 0 ∧ K r h')) : Ev (d + 1) (0, 0) MX12_kindOf [.ref r_0, .int x_1] h K :=
  m_met pn_X12 nl_X12 (fun _ => Nat.le_of_ble_eq_true rfl) hk
theorem bk_X12_lay_0 {d : Nat} (r_0 : Nat) (x_1 : Int32) {h : mH} {Q : Option Value → mH → Prop} (hF : (∃ h1 : mH, m_put h r_0 11 1 (.int 0) = some h1 ∧ (∃ fs8 : List Value, (h1).1 r_0 = .inr (11, fs8) ∧ Ev d (0, 0) MX12_become [.ref r_0, .int x_1, .int 10] h1 (fun r2 h3 => r2 = none ∧ (∃ fs7 : List Value, (h3).1 r_0 = .inr (11, fs7) ∧ Ev d (0, 0) MX12_kindOf [.ref r_0, .int x_1] h3 (fun r4 h5 => ∃ x6 : Int32, r4 = some (.int x6) ∧ Q (some (.int x6)) h5)))))) : Wm (d + 1) (0, 0) JX12_lay 0 [some (.ref r_0), some (.int x_1)] [] h Q := by
  refine m_aload_n dX12_lay_0 rfl ?_
  refine m_iconst dX12_lay_1 ki_0 ?_
  obtain ⟨h1, e, hF⟩ := hF
  refine m_putf fp_X12_82_11 dX12_lay_2 trivial e ?_
  refine m_aload_n dX12_lay_5 rfl ?_
  refine m_iload_n dX12_lay_6 rfl ?_
  refine m_bipush dX12_lay_7 kb_10 ?_
  obtain ⟨fs8, e, hF⟩ := hF
  refine m_virtual (as := [.int x_1, .int 10]) (rest := []) cv_X12_113_11 e dX12_lay_9 rfl rfl (Nat.le_of_ble_eq_true rfl) (Nat.le_of_eq (Nat.zero_add _)) (Nat.le_of_eq (Nat.zero_add _)) (b1 := (0, 0)) (b2 := (0, 0)) (Ev.mono hF ?_)
  intro r2 h3 hF
  obtain ⟨rfl, hF⟩ := hF
  refine m_aload_n dX12_lay_12 rfl ?_
  refine m_iload_n dX12_lay_13 rfl ?_
  obtain ⟨fs7, e, hF⟩ := hF
  refine m_virtual (as := [.int x_1]) (rest := []) cv_X12_117_11 e dX12_lay_14 rfl rfl (Nat.le_of_ble_eq_true rfl) (Nat.le_of_eq (Nat.zero_add _)) (Nat.le_of_eq (Nat.zero_add _)) (b1 := (0, 0)) (b2 := (0, 0)) (Ev.mono hF ?_)
  intro r4 h5 hF
  obtain ⟨x6, rfl, hF⟩ := hF
  exact m_ireturn dX12_lay_17 trivial hF
theorem en_X12_lay {d : Nat} {r_0 : Nat} {x_1 : Int32} {h : mH} {K : Option Value → mH → Prop} (hk : Wm (d + 1) (0, 0) JX12_lay 0 [some (.ref r_0), some (.int x_1)] [] h (fun r h' => h'.1 0 = h.1 0 ∧ K r h')) : Ev (d + 1) (0, 0) MX12_lay [.ref r_0, .int x_1] h K :=
  m_met pn_X12 nl_X12 (fun _ => Nat.le_of_ble_eq_true rfl) hk
theorem bk_X12_cover_0 {d : Nat} (r_0 : Nat) (x_1 : Int32) (x_2 : Int32) (x_3 : Int32) (x_4 : Int32) (x_5 : Int32) {h : mH} {Q : Option Value → mH → Prop} (hF : (∃ h1 : mH, m_put h r_0 11 0 (.int 0) = some h1 ∧ Ev d (0, 0) MX12_isPlace [.int x_1] h1 (fun r2 h3 => ∃ x4 : Int32, r2 = some (.int x4) ∧ ((x4 = 0 → Q (some (.int (-1000001))) h3) ∧ (¬ (x4 = 0) → Ev d (0, 0) MX12_isRow [.int x_2] h3 (fun r5 h6 => ∃ x7 : Int32, r5 = some (.int x7) ∧ ((x7 = 0 → Q (some (.int (-1000001))) h6) ∧ (¬ (x7 = 0) → Ev d (0, 0) MX12_in [.long x_4.toInt64, .long 1, .long 12] h6 (fun r8 h9 => ∃ x10 : Int32, r8 = some (.int x10) ∧ ((x10 = 0 → Q (some (.int (-1000001))) h9) ∧ (¬ (x10 = 0) → Ev d (0, 0) MX12_in [.long x_5.toInt64, .long 1, .long 8] h9 (fun r11 h12 => ∃ x13 : Int32, r11 = some (.int x13) ∧ ((¬ x13 = 0 → (∃ r14 : Nat, m_fld h12 r_0 [11] 2 = some (.ref r14) ∧ (∃ x15 : Int32, m_il h12 r14 x_2 = some x15 ∧ ((0 ≤ x15 → ((x_3 < 0 → (∃ fs19 : List Value, (h12).1 r_0 = .inr (11, fs19) ∧ Ev d (0, 0) MX12_found [.ref r_0, .int 2] h12 (fun r16 h17 => ∃ x18 : Int32, r16 = some (.int x18) ∧ Q (some (.int x18)) h17))) ∧ (¬ (x_3 < 0) → (∃ r20 : Nat, m_fld h12 r_0 [11] 3 = some (.ref r20) ∧ (∃ x21 : Int32, m_il h12 r20 x_2 = some x21 ∧ (((lg_cmp (x_3.toInt64 + (((x_5 - 1) * x_4).toInt64)) x21.toInt64) ≤ 0 → Wm (d + 1) (0, 0) JX12_cover 98 [some (.ref r_0), some (.int x_1), some (.int x_2), some (.int x_3), some (.int x_4), some (.int x_5), some (.int 0), none, none, none] [] h12 Q) ∧ (¬ ((lg_cmp (x_3.toInt64 + (((x_5 - 1) * x_4).toInt64)) x21.toInt64) ≤ 0) → (∃ fs25 : List Value, (h12).1 r_0 = .inr (11, fs25) ∧ Ev d (0, 0) MX12_found [.ref r_0, .int 2] h12 (fun r22 h23 => ∃ x24 : Int32, r22 = some (.int x24) ∧ Q (some (.int x24)) h23))))))))) ∧ (¬ (0 ≤ x15) → (∃ fs29 : List Value, (h12).1 r_0 = .inr (11, fs29) ∧ Ev d (0, 0) MX12_found [.ref r_0, .int 1] h12 (fun r26 h27 => ∃ x28 : Int32, r26 = some (.int x28) ∧ Q (some (.int x28)) h27))))))) ∧ (x13 = 0 → Q (some (.int (-1000001))) h12)))))))))))))) : Wm (d + 1) (0, 0) JX12_cover 0 [some (.ref r_0), some (.int x_1), some (.int x_2), some (.int x_3), some (.int x_4), some (.int x_5), none, none, none, none] [] h Q := by
  refine m_aload_n dX12_cover_0 rfl ?_
  refine m_iconst dX12_cover_1 ki_0 ?_
  obtain ⟨h1, e, hF⟩ := hF
  refine m_putf fp_X12_78_11 dX12_cover_2 trivial e ?_
  refine m_iload_n dX12_cover_5 rfl ?_
  refine m_static (as := [.int x_1]) (rest := []) cs_X12_120 dX12_cover_6 rfl rfl (Nat.le_of_ble_eq_true rfl) (Nat.le_of_eq (Nat.zero_add _)) (Nat.le_of_eq (Nat.zero_add _)) (b1 := (0, 0)) (b2 := (0, 0)) (Ev.mono hF ?_)
  intro r2 h3 hF
  obtain ⟨x4, rfl, hF⟩ := hF
  refine m_if_eq 45 dX12_cover_9 (by decide) (fun c => ?_) (fun c => ?_)
  · replace hF := hF.1 c
    refine m_ldc dX12_cover_45 kc_X12_98 ?_
    exact m_ireturn dX12_cover_47 trivial hF
  · replace hF := hF.2 c
    refine m_iload_n dX12_cover_12 rfl ?_
    refine m_static (as := [.int x_2]) (rest := []) cs_X12_92 dX12_cover_13 rfl rfl (Nat.le_of_ble_eq_true rfl) (Nat.le_of_eq (Nat.zero_add _)) (Nat.le_of_eq (Nat.zero_add _)) (b1 := (0, 0)) (b2 := (0, 0)) (Ev.mono hF ?_)
    intro r5 h6 hF
    obtain ⟨x7, rfl, hF⟩ := hF
    refine m_if_eq 45 dX12_cover_16 (by decide) (fun c => ?_) (fun c => ?_)
    · replace hF := hF.1 c
      refine m_ldc dX12_cover_45 kc_X12_98 ?_
      exact m_ireturn dX12_cover_47 trivial hF
    · replace hF := hF.2 c
      refine m_iload dX12_cover_19 rfl ?_
      refine m_i2l dX12_cover_21 ?_
      refine m_lconst dX12_cover_22 kl_1 ?_
      refine m_ldc2_w dX12_cover_23 kc_X12_123 ?_
      refine m_static (as := [.long x_4.toInt64, .long 1, .long 12]) (rest := []) cs_X12_88 dX12_cover_26 rfl rfl (Nat.le_of_ble_eq_true rfl) (Nat.le_of_eq (Nat.zero_add _)) (Nat.le_of_eq (Nat.zero_add _)) (b1 := (0, 0)) (b2 := (0, 0)) (Ev.mono hF ?_)
      intro r8 h9 hF
      obtain ⟨x10, rfl, hF⟩ := hF
      refine m_if_eq 45 dX12_cover_29 (by decide) (fun c => ?_) (fun c => ?_)
      · replace hF := hF.1 c
        refine m_ldc dX12_cover_45 kc_X12_98 ?_
        exact m_ireturn dX12_cover_47 trivial hF
      · replace hF := hF.2 c
        refine m_iload dX12_cover_32 rfl ?_
        refine m_i2l dX12_cover_34 ?_
        refine m_lconst dX12_cover_35 kl_1 ?_
        refine m_ldc2_w dX12_cover_36 kc_X12_125 ?_
        refine m_static (as := [.long x_5.toInt64, .long 1, .long 8]) (rest := []) cs_X12_88 dX12_cover_39 rfl rfl (Nat.le_of_ble_eq_true rfl) (Nat.le_of_eq (Nat.zero_add _)) (Nat.le_of_eq (Nat.zero_add _)) (b1 := (0, 0)) (b2 := (0, 0)) (Ev.mono hF ?_)
        intro r11 h12 hF
        obtain ⟨x13, rfl, hF⟩ := hF
        refine m_if_ne 48 dX12_cover_42 (by decide) (fun c => ?_) (fun c => ?_)
        · replace hF := hF.1 c
          refine m_aload_n dX12_cover_48 rfl ?_
          obtain ⟨r14, e, hF⟩ := hF
          refine m_get fg_X12_7 dX12_cover_49 e ?_
          refine m_iload_n dX12_cover_52 rfl ?_
          obtain ⟨x15, e, hF⟩ := hF
          refine m_iald dX12_cover_53 e ?_
          refine m_if_ge 63 dX12_cover_54 (by decide) (fun c => ?_) (fun c => ?_)
          · replace hF := hF.1 c
            refine m_iload_n dX12_cover_63 rfl ?_
            refine m_if_lt 89 dX12_cover_64 (by decide) (fun c => ?_) (fun c => ?_)
            · replace hF := hF.1 c
              refine m_aload_n dX12_cover_89 rfl ?_
              refine m_iconst dX12_cover_90 ki_2 ?_
              obtain ⟨fs19, e, hF⟩ := hF
              refine m_virtual (as := [.int 2]) (rest := []) cv_X12_99_11 e dX12_cover_91 rfl rfl (Nat.le_of_ble_eq_true rfl) (Nat.le_of_eq (Nat.zero_add _)) (Nat.le_of_eq (Nat.zero_add _)) (b1 := (0, 0)) (b2 := (0, 0)) (Ev.mono hF ?_)
              intro r16 h17 hF
              obtain ⟨x18, rfl, hF⟩ := hF
              exact m_ireturn dX12_cover_94 trivial hF
            · replace hF := hF.2 c
              refine m_iload_n dX12_cover_67 rfl ?_
              refine m_i2l dX12_cover_68 ?_
              refine m_iload dX12_cover_69 rfl ?_
              refine m_iconst dX12_cover_71 ki_1 ?_
              refine m_isub dX12_cover_72 ?_
              refine m_iload dX12_cover_73 rfl ?_
              refine m_imul dX12_cover_75 ?_
              refine m_i2l dX12_cover_76 ?_
              refine m_ladd dX12_cover_77 ?_
              refine m_aload_n dX12_cover_78 rfl ?_
              obtain ⟨r20, e, hF⟩ := hF
              refine m_get fg_X12_13 dX12_cover_79 e ?_
              refine m_iload_n dX12_cover_82 rfl ?_
              obtain ⟨x21, e, hF⟩ := hF
              refine m_iald dX12_cover_83 e ?_
              refine m_i2l dX12_cover_84 ?_
              refine m_lcmp dX12_cover_85 ?_
              refine m_if_le 95 dX12_cover_86 (by decide) (fun c => ?_) (fun c => ?_)
              · replace hF := hF.1 c
                refine m_iconst dX12_cover_95 ki_0 ?_
                refine m_istore (ls2 := [some (.ref r_0), some (.int x_1), some (.int x_2), some (.int x_3), some (.int x_4), some (.int x_5), some (.int 0), none, none, none]) dX12_cover_96 (by decide) rfl ?_
                exact hF
              · replace hF := hF.2 c
                refine m_aload_n dX12_cover_89 rfl ?_
                refine m_iconst dX12_cover_90 ki_2 ?_
                obtain ⟨fs25, e, hF⟩ := hF
                refine m_virtual (as := [.int 2]) (rest := []) cv_X12_99_11 e dX12_cover_91 rfl rfl (Nat.le_of_ble_eq_true rfl) (Nat.le_of_eq (Nat.zero_add _)) (Nat.le_of_eq (Nat.zero_add _)) (b1 := (0, 0)) (b2 := (0, 0)) (Ev.mono hF ?_)
                intro r22 h23 hF
                obtain ⟨x24, rfl, hF⟩ := hF
                exact m_ireturn dX12_cover_94 trivial hF
          · replace hF := hF.2 c
            refine m_aload_n dX12_cover_57 rfl ?_
            refine m_iconst dX12_cover_58 ki_1 ?_
            obtain ⟨fs29, e, hF⟩ := hF
            refine m_virtual (as := [.int 1]) (rest := []) cv_X12_99_11 e dX12_cover_59 rfl rfl (Nat.le_of_ble_eq_true rfl) (Nat.le_of_eq (Nat.zero_add _)) (Nat.le_of_eq (Nat.zero_add _)) (b1 := (0, 0)) (b2 := (0, 0)) (Ev.mono hF ?_)
            intro r26 h27 hF
            obtain ⟨x28, rfl, hF⟩ := hF
            exact m_ireturn dX12_cover_62 trivial hF
        · replace hF := hF.2 c
          refine m_ldc dX12_cover_45 kc_X12_98 ?_
          exact m_ireturn dX12_cover_47 trivial hF
theorem bk_X12_cover_98 {d : Nat} (r_0 : Nat) (x_1 : Int32) (x_2 : Int32) (x_3 : Int32) (x_4 : Int32) (x_5 : Int32) (x_6 : Int32) {h : mH} {Q : Option Value → mH → Prop} (hF : ((x_5 ≤ (x_6 + 1) → (∃ r1 : Nat, m_fld h r_0 [11] 5 = some (.ref r1) ∧ (∃ h2 : mH, m_is h r1 10 x_4 = some h2 ∧ (∃ r3 : Nat, m_fld h2 r_0 [11] 6 = some (.ref r3) ∧ (∃ h4 : mH, m_is h2 r3 10 x_5 = some h4 ∧ Wm (d + 1) (0, 0) JX12_cover 213 [some (.ref r_0), some (.int x_1), some (.int x_2), some (.int x_3), some (.int x_4), some (.int x_5), some (.int 0), none, none, none] [] h4 Q))))) ∧ (¬ (x_5 ≤ (x_6 + 1)) → Wm (d + 1) (0, 0) JX12_cover 113 [some (.ref r_0), some (.int x_1), some (.int x_2), some (.int x_3), some (.int x_4), some (.int x_5), some (.int x_6), some (.int 0), some (.int 0), none] [] h Q))) : Wm (d + 1) (0, 0) JX12_cover 98 [some (.ref r_0), some (.int x_1), some (.int x_2), some (.int x_3), some (.int x_4), some (.int x_5), some (.int x_6), none, none, none] [] h Q := by
  refine m_iload dX12_cover_98 rfl ?_
  refine m_iconst dX12_cover_100 ki_1 ?_
  refine m_iadd dX12_cover_101 ?_
  refine m_iload dX12_cover_102 rfl ?_
  refine m_icmp_ge 192 dX12_cover_104 (by decide) (fun c => ?_) (fun c => ?_)
  · replace hF := hF.1 c
    refine m_aload_n dX12_cover_192 rfl ?_
    obtain ⟨r1, e, hF⟩ := hF
    refine m_get fg_X12_19 dX12_cover_193 e ?_
    refine m_bipush dX12_cover_196 kb_10 ?_
    refine m_iload dX12_cover_198 rfl ?_
    obtain ⟨h2, e, hF⟩ := hF
    refine m_iast dX12_cover_200 e ?_
    refine m_aload_n dX12_cover_201 rfl ?_
    obtain ⟨r3, e, hF⟩ := hF
    refine m_get fg_X12_22 dX12_cover_202 e ?_
    refine m_bipush dX12_cover_205 kb_10 ?_
    refine m_iload dX12_cover_207 rfl ?_
    obtain ⟨h4, e, hF⟩ := hF
    refine m_iast dX12_cover_209 e ?_
    refine m_iconst dX12_cover_210 ki_0 ?_
    refine m_istore (ls2 := [some (.ref r_0), some (.int x_1), some (.int x_2), some (.int x_3), some (.int x_4), some (.int x_5), some (.int 0), none, none, none]) dX12_cover_211 (by decide) rfl ?_
    exact hF
  · replace hF := hF.2 c
    refine m_iconst dX12_cover_107 ki_0 ?_
    refine m_istore (ls2 := [some (.ref r_0), some (.int x_1), some (.int x_2), some (.int x_3), some (.int x_4), some (.int x_5), some (.int x_6), some (.int 0), none, none]) dX12_cover_108 (by decide) rfl ?_
    refine m_iconst dX12_cover_110 ki_0 ?_
    refine m_istore (ls2 := [some (.ref r_0), some (.int x_1), some (.int x_2), some (.int x_3), some (.int x_4), some (.int x_5), some (.int x_6), some (.int 0), some (.int 0), none]) dX12_cover_111 (by decide) rfl ?_
    exact hF
theorem bk_X12_cover_213 {d : Nat} (r_0 : Nat) (x_1 : Int32) (x_2 : Int32) (x_3 : Int32) (x_4 : Int32) (x_5 : Int32) (x_6 : Int32) {h : mH} {Q : Option Value → mH → Prop} (hF : ((x_4 ≤ x_6 → (∃ fs4 : List Value, (h).1 r_0 = .inr (11, fs4) ∧ Ev d (0, 0) MX12_lay [.ref r_0, .int x_1] h (fun r1 h2 => ∃ x3 : Int32, r1 = some (.int x3) ∧ Q (some (.int x3)) h2))) ∧ (¬ (x_4 ≤ x_6) → Wm (d + 1) (0, 0) JX12_cover 227 [some (.ref r_0), some (.int x_1), some (.int x_2), some (.int x_3), some (.int x_4), some (.int x_5), some (.int x_6), some (.int x_6), some (.int 0), none] [] h Q))) : Wm (d + 1) (0, 0) JX12_cover 213 [some (.ref r_0), some (.int x_1), some (.int x_2), some (.int x_3), some (.int x_4), some (.int x_5), some (.int x_6), none, none, none] [] h Q := by
  refine m_iload dX12_cover_213 rfl ?_
  refine m_iload dX12_cover_215 rfl ?_
  refine m_icmp_ge 314 dX12_cover_217 (by decide) (fun c => ?_) (fun c => ?_)
  · replace hF := hF.1 c
    refine m_aload_n dX12_cover_314 rfl ?_
    refine m_iload_n dX12_cover_315 rfl ?_
    obtain ⟨fs4, e, hF⟩ := hF
    refine m_virtual (as := [.int x_1]) (rest := []) cv_X12_131_11 e dX12_cover_316 rfl rfl (Nat.le_of_ble_eq_true rfl) (Nat.le_of_eq (Nat.zero_add _)) (Nat.le_of_eq (Nat.zero_add _)) (b1 := (0, 0)) (b2 := (0, 0)) (Ev.mono hF ?_)
    intro r1 h2 hF
    obtain ⟨x3, rfl, hF⟩ := hF
    exact m_ireturn dX12_cover_319 trivial hF
  · replace hF := hF.2 c
    refine m_iload dX12_cover_220 rfl ?_
    refine m_istore (ls2 := [some (.ref r_0), some (.int x_1), some (.int x_2), some (.int x_3), some (.int x_4), some (.int x_5), some (.int x_6), some (.int x_6), none, none]) dX12_cover_222 (by decide) rfl ?_
    refine m_iconst dX12_cover_224 ki_0 ?_
    refine m_istore (ls2 := [some (.ref r_0), some (.int x_1), some (.int x_2), some (.int x_3), some (.int x_4), some (.int x_5), some (.int x_6), some (.int x_6), some (.int 0), none]) dX12_cover_225 (by decide) rfl ?_
    exact hF
theorem bk_X12_cover_113 {d : Nat} (r_0 : Nat) (x_1 : Int32) (x_2 : Int32) (x_3 : Int32) (x_4 : Int32) (x_5 : Int32) (x_6 : Int32) (x_7 : Int32) (x_8 : Int32) {h : mH} {Q : Option Value → mH → Prop} (hF : ((x_4 ≤ x_8 → Wm (d + 1) (0, 0) JX12_cover 98 [some (.ref r_0), some (.int x_1), some (.int x_2), some (.int x_3), some (.int x_4), some (.int x_5), some (.int (x_6 + 1)), none, none, none] [] h Q) ∧ (¬ (x_4 ≤ x_8) → (∃ r1 : Nat, m_fld h r_0 [11] 4 = some (.ref r1) ∧ (∃ x2 : Int32, m_il h r1 ((((96 * x_2) + x_3) + (x_6 * x_4)) + x_8) = some x2 ∧ Ev d (0, 0) MX12_in [.long x2.toInt64, .long 0, .long ((x_4 - 1).toInt64)] h (fun r3 h4 => ∃ x5 : Int32, r3 = some (.int x5) ∧ ((x5 = 0 → Q (some (.int (-1000001))) h4) ∧ (¬ (x5 = 0) → ((¬ ((x_7 >>> (x2 &&& 31)) &&& 1) = 1 → Wm (d + 1) (0, 0) JX12_cover 113 [some (.ref r_0), some (.int x_1), some (.int x_2), some (.int x_3), some (.int x_4), some (.int x_5), some (.int x_6), some (.int (x_7 ||| (1 <<< (x2 &&& 31)))), some (.int (x_8 + 1)), none] [] h4 Q) ∧ (((x_7 >>> (x2 &&& 31)) &&& 1) = 1 → Q (some (.int (-1000001))) h4)))))))))) : Wm (d + 1) (0, 0) JX12_cover 113 [some (.ref r_0), some (.int x_1), some (.int x_2), some (.int x_3), some (.int x_4), some (.int x_5), some (.int x_6), some (.int x_7), some (.int x_8), none] [] h Q := by
  refine m_iload dX12_cover_113 rfl ?_
  refine m_iload dX12_cover_115 rfl ?_
  refine m_icmp_ge 186 dX12_cover_117 (by decide) (fun c => ?_) (fun c => ?_)
  · replace hF := hF.1 c
    refine m_iinc (v := x_6 + 1) (ls2 := [some (.ref r_0), some (.int x_1), some (.int x_2), some (.int x_3), some (.int x_4), some (.int x_5), some (.int (x_6 + 1)), some (.int x_7), some (.int x_8), none]) dX12_cover_186 (by decide) rfl (congrArg (_ + ·) ki_1) rfl ?_
    refine m_goto 98 dX12_cover_189 (by decide) ?_
    refine m_wk [7, 8] rfl ?_
    exact hF
  · replace hF := hF.2 c
    refine m_aload_n dX12_cover_120 rfl ?_
    obtain ⟨r1, e, hF⟩ := hF
    refine m_get fg_X12_16 dX12_cover_121 e ?_
    refine m_bipush dX12_cover_124 kb_96 ?_
    refine m_iload_n dX12_cover_126 rfl ?_
    refine m_imul dX12_cover_127 ?_
    refine m_iload_n dX12_cover_128 rfl ?_
    refine m_iadd dX12_cover_129 ?_
    refine m_iload dX12_cover_130 rfl ?_
    refine m_iload dX12_cover_132 rfl ?_
    refine m_imul dX12_cover_134 ?_
    refine m_iadd dX12_cover_135 ?_
    refine m_iload dX12_cover_136 rfl ?_
    refine m_iadd dX12_cover_138 ?_
    obtain ⟨x2, e, hF⟩ := hF
    refine m_iald dX12_cover_139 e ?_
    refine m_istore (ls2 := [some (.ref r_0), some (.int x_1), some (.int x_2), some (.int x_3), some (.int x_4), some (.int x_5), some (.int x_6), some (.int x_7), some (.int x_8), some (.int x2)]) dX12_cover_140 (by decide) rfl ?_
    refine m_iload dX12_cover_142 rfl ?_
    refine m_i2l dX12_cover_144 ?_
    refine m_lconst dX12_cover_145 kl_0 ?_
    refine m_iload dX12_cover_146 rfl ?_
    refine m_iconst dX12_cover_148 ki_1 ?_
    refine m_isub dX12_cover_149 ?_
    refine m_i2l dX12_cover_150 ?_
    refine m_static (as := [.long x2.toInt64, .long 0, .long ((x_4 - 1).toInt64)]) (rest := []) cs_X12_88 dX12_cover_151 rfl rfl (Nat.le_of_ble_eq_true rfl) (Nat.le_of_eq (Nat.zero_add _)) (Nat.le_of_eq (Nat.zero_add _)) (b1 := (0, 0)) (b2 := (0, 0)) (Ev.mono hF ?_)
    intro r3 h4 hF
    obtain ⟨x5, rfl, hF⟩ := hF
    refine m_if_eq 168 dX12_cover_154 (by decide) (fun c => ?_) (fun c => ?_)
    · replace hF := hF.1 c
      refine m_ldc dX12_cover_168 kc_X12_98 ?_
      exact m_ireturn dX12_cover_170 trivial hF
    · replace hF := hF.2 c
      refine m_iload dX12_cover_157 rfl ?_
      refine m_iload dX12_cover_159 rfl ?_
      refine m_ishr dX12_cover_161 ?_
      refine m_iconst dX12_cover_162 ki_1 ?_
      refine m_iand dX12_cover_163 ?_
      refine m_iconst dX12_cover_164 ki_1 ?_
      refine m_icmp_ne 171 dX12_cover_165 (by decide) (fun c => ?_) (fun c => ?_)
      · replace hF := hF.1 c
        refine m_iload dX12_cover_171 rfl ?_
        refine m_iconst dX12_cover_173 ki_1 ?_
        refine m_iload dX12_cover_174 rfl ?_
        refine m_ishl dX12_cover_176 ?_
        refine m_ior dX12_cover_177 ?_
        refine m_istore (ls2 := [some (.ref r_0), some (.int x_1), some (.int x_2), some (.int x_3), some (.int x_4), some (.int x_5), some (.int x_6), some (.int (x_7 ||| (1 <<< (x2 &&& 31)))), some (.int x_8), some (.int x2)]) dX12_cover_178 (by decide) rfl ?_
        refine m_iinc (v := x_8 + 1) (ls2 := [some (.ref r_0), some (.int x_1), some (.int x_2), some (.int x_3), some (.int x_4), some (.int x_5), some (.int x_6), some (.int (x_7 ||| (1 <<< (x2 &&& 31)))), some (.int (x_8 + 1)), some (.int x2)]) dX12_cover_180 (by decide) rfl (congrArg (_ + ·) ki_1) rfl ?_
        refine m_goto 113 dX12_cover_183 (by decide) ?_
        refine m_wk [9] rfl ?_
        exact hF
      · replace hF := hF.2 c
        refine m_ldc dX12_cover_168 kc_X12_98 ?_
        exact m_ireturn dX12_cover_170 trivial hF
theorem bk_X12_cover_227 {d : Nat} (r_0 : Nat) (x_1 : Int32) (x_2 : Int32) (x_3 : Int32) (x_4 : Int32) (x_5 : Int32) (x_6 : Int32) (x_7 : Int32) (x_8 : Int32) {h : mH} {Q : Option Value → mH → Prop} (hF : ((x_5 ≤ (x_8 + 1) → (∃ fs3 : List Value, (h).1 r_0 = .inr (11, fs3) ∧ Ev d (0, 0) MX12_put [.ref r_0, .int 10, .int (x_5 - 1), .int x_7, .int x_6] h (fun r1 h2 => r1 = none ∧ Wm (d + 1) (0, 0) JX12_cover 213 [some (.ref r_0), some (.int x_1), some (.int x_2), some (.int x_3), some (.int x_4), some (.int x_5), some (.int (x_6 + 1)), none, none, none] [] h2 Q))) ∧ (¬ (x_5 ≤ (x_8 + 1)) → (∃ r4 : Nat, m_fld h r_0 [11] 4 = some (.ref r4) ∧ (∃ x5 : Int32, m_il h r4 ((((96 * x_2) + x_3) + (x_8 * x_4)) + x_6) = some x5 ∧ (∃ fs10 : List Value, (h).1 r_0 = .inr (11, fs10) ∧ Ev d (0, 0) MX12_put [.ref r_0, .int 10, .int x_8, .int x_6, .int x5] h (fun r6 h7 => r6 = none ∧ (∃ r8 : Nat, m_fld h7 r_0 [11] 4 = some (.ref r8) ∧ (∃ x9 : Int32, m_il h7 r8 ((((96 * x_2) + x_3) + (x_8 * x_4)) + x_7) = some x9 ∧ Wm (d + 1) (0, 0) JX12_cover 227 [some (.ref r_0), some (.int x_1), some (.int x_2), some (.int x_3), some (.int x_4), some (.int x_5), some (.int x_6), some (.int x9), some (.int (x_8 + 1)), none] [] h7 Q))))))))) : Wm (d + 1) (0, 0) JX12_cover 227 [some (.ref r_0), some (.int x_1), some (.int x_2), some (.int x_3), some (.int x_4), some (.int x_5), some (.int x_6), some (.int x_7), some (.int x_8), none] [] h Q := by
  refine m_iload dX12_cover_227 rfl ?_
  refine m_iconst dX12_cover_229 ki_1 ?_
  refine m_iadd dX12_cover_230 ?_
  refine m_iload dX12_cover_231 rfl ?_
  refine m_icmp_ge 294 dX12_cover_233 (by decide) (fun c => ?_) (fun c => ?_)
  · replace hF := hF.1 c
    refine m_aload_n dX12_cover_294 rfl ?_
    refine m_bipush dX12_cover_295 kb_10 ?_
    refine m_iload dX12_cover_297 rfl ?_
    refine m_iconst dX12_cover_299 ki_1 ?_
    refine m_isub dX12_cover_300 ?_
    refine m_iload dX12_cover_301 rfl ?_
    refine m_iload dX12_cover_303 rfl ?_
    obtain ⟨fs3, e, hF⟩ := hF
    refine m_virtual (as := [.int 10, .int (x_5 - 1), .int x_7, .int x_6]) (rest := []) cv_X12_127_11 e dX12_cover_305 rfl rfl (Nat.le_of_ble_eq_true rfl) (Nat.le_of_eq (Nat.zero_add _)) (Nat.le_of_eq (Nat.zero_add _)) (b1 := (0, 0)) (b2 := (0, 0)) (Ev.mono hF ?_)
    intro r1 h2 hF
    obtain ⟨rfl, hF⟩ := hF
    refine m_iinc (v := x_6 + 1) (ls2 := [some (.ref r_0), some (.int x_1), some (.int x_2), some (.int x_3), some (.int x_4), some (.int x_5), some (.int (x_6 + 1)), some (.int x_7), some (.int x_8), none]) dX12_cover_308 (by decide) rfl (congrArg (_ + ·) ki_1) rfl ?_
    refine m_goto 213 dX12_cover_311 (by decide) ?_
    refine m_wk [7, 8] rfl ?_
    exact hF
  · replace hF := hF.2 c
    refine m_aload_n dX12_cover_236 rfl ?_
    refine m_bipush dX12_cover_237 kb_10 ?_
    refine m_iload dX12_cover_239 rfl ?_
    refine m_iload dX12_cover_241 rfl ?_
    refine m_aload_n dX12_cover_243 rfl ?_
    obtain ⟨r4, e, hF⟩ := hF
    refine m_get fg_X12_16 dX12_cover_244 e ?_
    refine m_bipush dX12_cover_247 kb_96 ?_
    refine m_iload_n dX12_cover_249 rfl ?_
    refine m_imul dX12_cover_250 ?_
    refine m_iload_n dX12_cover_251 rfl ?_
    refine m_iadd dX12_cover_252 ?_
    refine m_iload dX12_cover_253 rfl ?_
    refine m_iload dX12_cover_255 rfl ?_
    refine m_imul dX12_cover_257 ?_
    refine m_iadd dX12_cover_258 ?_
    refine m_iload dX12_cover_259 rfl ?_
    refine m_iadd dX12_cover_261 ?_
    obtain ⟨x5, e, hF⟩ := hF
    refine m_iald dX12_cover_262 e ?_
    obtain ⟨fs10, e, hF⟩ := hF
    refine m_virtual (as := [.int 10, .int x_8, .int x_6, .int x5]) (rest := []) cv_X12_127_11 e dX12_cover_263 rfl rfl (Nat.le_of_ble_eq_true rfl) (Nat.le_of_eq (Nat.zero_add _)) (Nat.le_of_eq (Nat.zero_add _)) (b1 := (0, 0)) (b2 := (0, 0)) (Ev.mono hF ?_)
    intro r6 h7 hF
    obtain ⟨rfl, hF⟩ := hF
    refine m_aload_n dX12_cover_266 rfl ?_
    obtain ⟨r8, e, hF⟩ := hF
    refine m_get fg_X12_16 dX12_cover_267 e ?_
    refine m_bipush dX12_cover_270 kb_96 ?_
    refine m_iload_n dX12_cover_272 rfl ?_
    refine m_imul dX12_cover_273 ?_
    refine m_iload_n dX12_cover_274 rfl ?_
    refine m_iadd dX12_cover_275 ?_
    refine m_iload dX12_cover_276 rfl ?_
    refine m_iload dX12_cover_278 rfl ?_
    refine m_imul dX12_cover_280 ?_
    refine m_iadd dX12_cover_281 ?_
    refine m_iload dX12_cover_282 rfl ?_
    refine m_iadd dX12_cover_284 ?_
    obtain ⟨x9, e, hF⟩ := hF
    refine m_iald dX12_cover_285 e ?_
    refine m_istore (ls2 := [some (.ref r_0), some (.int x_1), some (.int x_2), some (.int x_3), some (.int x_4), some (.int x_5), some (.int x_6), some (.int x9), some (.int x_8), none]) dX12_cover_286 (by decide) rfl ?_
    refine m_iinc (v := x_8 + 1) (ls2 := [some (.ref r_0), some (.int x_1), some (.int x_2), some (.int x_3), some (.int x_4), some (.int x_5), some (.int x_6), some (.int x9), some (.int (x_8 + 1)), none]) dX12_cover_288 (by decide) rfl (congrArg (_ + ·) ki_1) rfl ?_
    refine m_goto 227 dX12_cover_291 (by decide) ?_
    exact hF
theorem en_X12_cover {d : Nat} {r_0 : Nat} {x_1 : Int32} {x_2 : Int32} {x_3 : Int32} {x_4 : Int32} {x_5 : Int32} {h : mH} {K : Option Value → mH → Prop} (hk : Wm (d + 1) (0, 0) JX12_cover 0 [some (.ref r_0), some (.int x_1), some (.int x_2), some (.int x_3), some (.int x_4), some (.int x_5), none, none, none, none] [] h (fun r h' => h'.1 0 = h.1 0 ∧ K r h')) : Ev (d + 1) (0, 0) MX12_cover [.ref r_0, .int x_1, .int x_2, .int x_3, .int x_4, .int x_5] h K :=
  m_met pn_X12 nl_X12 (fun _ => Nat.le_of_ble_eq_true rfl) hk
theorem bk_X12_look_0 {d : Nat} (r_0 : Nat) (x_1 : Int32) (x_2 : Int32) {h : mH} {Q : Option Value → mH → Prop} (hF : (∃ h1 : mH, m_put h r_0 11 1 (.int 0) = some h1 ∧ (∃ r2 : Nat, m_fld h1 r_0 [11] 5 = some (.ref r2) ∧ (∃ x3 : Int32, m_il h1 r2 x_1 = some x3 ∧ ((¬ x3 = 0 → ((x_2 = 0 → Q (some (.int 0)) h1) ∧ (¬ (x_2 = 0) → (∃ fs11 : List Value, (h1).1 r_0 = .inr (11, fs11) ∧ Ev d (0, 0) MX12_parts [.ref r_0, .int x_1] h1 (fun r4 h5 => ∃ x6 : Int32, r4 = some (.int x6) ∧ ((x6 ≤ 1 → Q (some (.int 0)) h5) ∧ (¬ (x6 ≤ 1) → (∃ fs10 : List Value, (h5).1 r_0 = .inr (11, fs10) ∧ Ev d (0, 0) MX12_found [.ref r_0, .int 3] h5 (fun r7 h8 => ∃ x9 : Int32, r7 = some (.int x9) ∧ Q (some (.int x9)) h8))))))))) ∧ (x3 = 0 → (∃ fs15 : List Value, (h1).1 r_0 = .inr (11, fs15) ∧ Ev d (0, 0) MX12_found [.ref r_0, .int 1] h1 (fun r12 h13 => ∃ x14 : Int32, r12 = some (.int x14) ∧ Q (some (.int x14)) h13)))))))) : Wm (d + 1) (0, 0) JX12_look 0 [some (.ref r_0), some (.int x_1), some (.int x_2)] [] h Q := by
  refine m_aload_n dX12_look_0 rfl ?_
  refine m_iconst dX12_look_1 ki_0 ?_
  obtain ⟨h1, e, hF⟩ := hF
  refine m_putf fp_X12_82_11 dX12_look_2 trivial e ?_
  refine m_aload_n dX12_look_5 rfl ?_
  obtain ⟨r2, e, hF⟩ := hF
  refine m_get fg_X12_19 dX12_look_6 e ?_
  refine m_iload_n dX12_look_9 rfl ?_
  obtain ⟨x3, e, hF⟩ := hF
  refine m_iald dX12_look_10 e ?_
  refine m_if_ne 22 dX12_look_11 (by decide) (fun c => ?_) (fun c => ?_)
  · replace hF := hF.1 c
    refine m_iload_n dX12_look_22 rfl ?_
    refine m_if_eq 43 dX12_look_23 (by decide) (fun c => ?_) (fun c => ?_)
    · replace hF := hF.1 c
      refine m_iconst dX12_look_43 ki_0 ?_
      exact m_ireturn dX12_look_44 trivial hF
    · replace hF := hF.2 c
      refine m_aload_n dX12_look_26 rfl ?_
      refine m_iload_n dX12_look_27 rfl ?_
      obtain ⟨fs11, e, hF⟩ := hF
      refine m_virtual (as := [.int x_1]) (rest := []) cv_X12_134_11 e dX12_look_28 rfl rfl (Nat.le_of_ble_eq_true rfl) (Nat.le_of_eq (Nat.zero_add _)) (Nat.le_of_eq (Nat.zero_add _)) (b1 := (0, 0)) (b2 := (0, 0)) (Ev.mono hF ?_)
      intro r4 h5 hF
      obtain ⟨x6, rfl, hF⟩ := hF
      refine m_iconst dX12_look_31 ki_1 ?_
      refine m_icmp_le 43 dX12_look_32 (by decide) (fun c => ?_) (fun c => ?_)
      · replace hF := hF.1 c
        refine m_iconst dX12_look_43 ki_0 ?_
        exact m_ireturn dX12_look_44 trivial hF
      · replace hF := hF.2 c
        refine m_aload_n dX12_look_35 rfl ?_
        refine m_iconst dX12_look_36 ki_3 ?_
        obtain ⟨fs10, e, hF⟩ := hF
        refine m_virtual (as := [.int 3]) (rest := []) cv_X12_99_11 e dX12_look_37 rfl rfl (Nat.le_of_ble_eq_true rfl) (Nat.le_of_eq (Nat.zero_add _)) (Nat.le_of_eq (Nat.zero_add _)) (b1 := (0, 0)) (b2 := (0, 0)) (Ev.mono hF ?_)
        intro r7 h8 hF
        obtain ⟨x9, rfl, hF⟩ := hF
        refine m_goto 44 dX12_look_40 (by decide) ?_
        exact m_ireturn dX12_look_44 trivial hF
  · replace hF := hF.2 c
    refine m_aload_n dX12_look_14 rfl ?_
    refine m_iconst dX12_look_15 ki_1 ?_
    obtain ⟨fs15, e, hF⟩ := hF
    refine m_virtual (as := [.int 1]) (rest := []) cv_X12_99_11 e dX12_look_16 rfl rfl (Nat.le_of_ble_eq_true rfl) (Nat.le_of_eq (Nat.zero_add _)) (Nat.le_of_eq (Nat.zero_add _)) (b1 := (0, 0)) (b2 := (0, 0)) (Ev.mono hF ?_)
    intro r12 h13 hF
    obtain ⟨x14, rfl, hF⟩ := hF
    refine m_goto 44 dX12_look_19 (by decide) ?_
    exact m_ireturn dX12_look_44 trivial hF
theorem en_X12_look {d : Nat} {r_0 : Nat} {x_1 : Int32} {x_2 : Int32} {h : mH} {K : Option Value → mH → Prop} (hk : Wm (d + 1) (0, 0) JX12_look 0 [some (.ref r_0), some (.int x_1), some (.int x_2)] [] h (fun r h' => h'.1 0 = h.1 0 ∧ K r h')) : Ev (d + 1) (0, 0) MX12_look [.ref r_0, .int x_1, .int x_2] h K :=
  m_met pn_X12 nl_X12 (fun _ => Nat.le_of_ble_eq_true rfl) hk
theorem bk_X12_part_0 {d : Nat} (r_0 : Nat) (x_1 : Int32) (x_2 : Int32) (x_3 : Int32) {h : mH} {Q : Option Value → mH → Prop} (hF : (∃ h1 : mH, m_put h r_0 11 0 (.int 0) = some h1 ∧ Ev d (0, 0) MX12_isPlace [.int x_1] h1 (fun r2 h3 => ∃ x4 : Int32, r2 = some (.int x4) ∧ ((x4 = 0 → Q (some (.int (-1000001))) h3) ∧ (¬ (x4 = 0) → Ev d (0, 0) MX12_isPlace [.int x_2] h3 (fun r5 h6 => ∃ x7 : Int32, r5 = some (.int x7) ∧ ((¬ x7 = 0 → (∃ x8 : Int32, m_fld h6 r_0 [11] 1 = some (.int x8) ∧ (∃ fs20 : List Value, (h6).1 r_0 = .inr (11, fs20) ∧ Ev d (0, 0) MX12_look [.ref r_0, .int x_2, .int 0] h6 (fun r9 h10 => ∃ x11 : Int32, r9 = some (.int x11) ∧ ((0 ≤ x11 → (∃ fs19 : List Value, (h10).1 r_0 = .inr (11, fs19) ∧ Ev d (0, 0) MX12_parts [.ref r_0, .int x_2] h10 (fun r12 h13 => ∃ x14 : Int32, r12 = some (.int x14) ∧ Ev d (0, 0) MX12_in [.long x_3.toInt64, .long 0, .long ((x14 - 1).toInt64)] h13 (fun r15 h16 => ∃ x17 : Int32, r15 = some (.int x17) ∧ ((¬ x17 = 0 → Wm (d + 1) (0, 0) JX12_part 76 [some (.ref r_0), some (.int x_1), some (.int x_2), some (.int x_3), none, none, some (.int 0), some (.int 0), none] [] h16 Q) ∧ (x17 = 0 → (∃ h18 : mH, m_put h16 r_0 11 1 (.int x8) = some h18 ∧ Q (some (.int (-1000001))) h18))))))) ∧ (¬ (0 ≤ x11) → Q (some (.int x11)) h10)))))) ∧ (x7 = 0 → Q (some (.int (-1000001))) h6)))))))) : Wm (d + 1) (0, 0) JX12_part 0 [some (.ref r_0), some (.int x_1), some (.int x_2), some (.int x_3), none, none, none, none, none] [] h Q := by
  refine m_aload_n dX12_part_0 rfl ?_
  refine m_iconst dX12_part_1 ki_0 ?_
  obtain ⟨h1, e, hF⟩ := hF
  refine m_putf fp_X12_78_11 dX12_part_2 trivial e ?_
  refine m_iload_n dX12_part_5 rfl ?_
  refine m_static (as := [.int x_1]) (rest := []) cs_X12_120 dX12_part_6 rfl rfl (Nat.le_of_ble_eq_true rfl) (Nat.le_of_eq (Nat.zero_add _)) (Nat.le_of_eq (Nat.zero_add _)) (b1 := (0, 0)) (b2 := (0, 0)) (Ev.mono hF ?_)
  intro r2 h3 hF
  obtain ⟨x4, rfl, hF⟩ := hF
  refine m_if_eq 19 dX12_part_9 (by decide) (fun c => ?_) (fun c => ?_)
  · replace hF := hF.1 c
    refine m_ldc dX12_part_19 kc_X12_98 ?_
    exact m_ireturn dX12_part_21 trivial hF
  · replace hF := hF.2 c
    refine m_iload_n dX12_part_12 rfl ?_
    refine m_static (as := [.int x_2]) (rest := []) cs_X12_120 dX12_part_13 rfl rfl (Nat.le_of_ble_eq_true rfl) (Nat.le_of_eq (Nat.zero_add _)) (Nat.le_of_eq (Nat.zero_add _)) (b1 := (0, 0)) (b2 := (0, 0)) (Ev.mono hF ?_)
    intro r5 h6 hF
    obtain ⟨x7, rfl, hF⟩ := hF
    refine m_if_ne 22 dX12_part_16 (by decide) (fun c => ?_) (fun c => ?_)
    · replace hF := hF.1 c
      refine m_aload_n dX12_part_22 rfl ?_
      obtain ⟨x8, e, hF⟩ := hF
      refine m_get fg_X12_82 dX12_part_23 e ?_
      refine m_istore (ls2 := [some (.ref r_0), some (.int x_1), some (.int x_2), some (.int x_3), some (.int x8), none, none, none, none]) dX12_part_26 (by decide) rfl ?_
      refine m_aload_n dX12_part_28 rfl ?_
      refine m_iload_n dX12_part_29 rfl ?_
      refine m_iconst dX12_part_30 ki_0 ?_
      obtain ⟨fs20, e, hF⟩ := hF
      refine m_virtual (as := [.int x_2, .int 0]) (rest := []) cv_X12_137_11 e dX12_part_31 rfl rfl (Nat.le_of_ble_eq_true rfl) (Nat.le_of_eq (Nat.zero_add _)) (Nat.le_of_eq (Nat.zero_add _)) (b1 := (0, 0)) (b2 := (0, 0)) (Ev.mono hF ?_)
      intro r9 h10 hF
      obtain ⟨x11, rfl, hF⟩ := hF
      refine m_istore (ls2 := [some (.ref r_0), some (.int x_1), some (.int x_2), some (.int x_3), some (.int x8), some (.int x11), none, none, none]) dX12_part_34 (by decide) rfl ?_
      refine m_iload dX12_part_36 rfl ?_
      refine m_if_ge 44 dX12_part_38 (by decide) (fun c => ?_) (fun c => ?_)
      · replace hF := hF.1 c
        refine m_iload_n dX12_part_44 rfl ?_
        refine m_i2l dX12_part_45 ?_
        refine m_lconst dX12_part_46 kl_0 ?_
        refine m_aload_n dX12_part_47 rfl ?_
        refine m_iload_n dX12_part_48 rfl ?_
        obtain ⟨fs19, e, hF⟩ := hF
        refine m_virtual (as := [.int x_2]) (rest := [.long 0, .long x_3.toInt64]) cv_X12_134_11 e dX12_part_49 rfl rfl (Nat.le_of_ble_eq_true rfl) (Nat.le_of_eq (Nat.zero_add _)) (Nat.le_of_eq (Nat.zero_add _)) (b1 := (0, 0)) (b2 := (0, 0)) (Ev.mono hF ?_)
        intro r12 h13 hF
        obtain ⟨x14, rfl, hF⟩ := hF
        refine m_iconst dX12_part_52 ki_1 ?_
        refine m_isub dX12_part_53 ?_
        refine m_i2l dX12_part_54 ?_
        refine m_static (as := [.long x_3.toInt64, .long 0, .long ((x14 - 1).toInt64)]) (rest := []) cs_X12_88 dX12_part_55 rfl rfl (Nat.le_of_ble_eq_true rfl) (Nat.le_of_eq (Nat.zero_add _)) (Nat.le_of_eq (Nat.zero_add _)) (b1 := (0, 0)) (b2 := (0, 0)) (Ev.mono hF ?_)
        intro r15 h16 hF
        obtain ⟨x17, rfl, hF⟩ := hF
        refine m_if_ne 70 dX12_part_58 (by decide) (fun c => ?_) (fun c => ?_)
        · replace hF := hF.1 c
          refine m_iconst dX12_part_70 ki_0 ?_
          refine m_istore (ls2 := [some (.ref r_0), some (.int x_1), some (.int x_2), some (.int x_3), some (.int x8), some (.int x11), some (.int 0), none, none]) dX12_part_71 (by decide) rfl ?_
          refine m_iconst dX12_part_73 ki_0 ?_
          refine m_istore (ls2 := [some (.ref r_0), some (.int x_1), some (.int x_2), some (.int x_3), some (.int x8), some (.int x11), some (.int 0), some (.int 0), none]) dX12_part_74 (by decide) rfl ?_
          refine m_wk [4, 5] rfl ?_
          exact hF
        · replace hF := hF.2 c
          refine m_aload_n dX12_part_61 rfl ?_
          refine m_iload dX12_part_62 rfl ?_
          obtain ⟨h18, e, hF⟩ := hF
          refine m_putf fp_X12_82_11 dX12_part_64 trivial e ?_
          refine m_ldc dX12_part_67 kc_X12_98 ?_
          exact m_ireturn dX12_part_69 trivial hF
      · replace hF := hF.2 c
        refine m_iload dX12_part_41 rfl ?_
        exact m_ireturn dX12_part_43 trivial hF
    · replace hF := hF.2 c
      refine m_ldc dX12_part_19 kc_X12_98 ?_
      exact m_ireturn dX12_part_21 trivial hF
theorem bk_X12_part_76 {d : Nat} (r_0 : Nat) (x_1 : Int32) (x_2 : Int32) (x_3 : Int32) (x_6 : Int32) (x_7 : Int32) {h : mH} {Q : Option Value → mH → Prop} (hF : (∃ r1 : Nat, m_fld h r_0 [11] 5 = some (.ref r1) ∧ (∃ x2 : Int32, m_il h r1 x_2 = some x2 ∧ ((x2 ≤ x_7 → (∃ r3 : Nat, m_fld h r_0 [11] 5 = some (.ref r3) ∧ (∃ h4 : mH, m_is h r3 10 x_6 = some h4 ∧ (∃ r5 : Nat, m_fld h4 r_0 [11] 6 = some (.ref r5) ∧ (∃ r6 : Nat, m_fld h4 r_0 [11] 6 = some (.ref r6) ∧ (∃ x7 : Int32, m_il h4 r6 x_2 = some x7 ∧ (∃ h8 : mH, m_is h4 r5 10 x7 = some h8 ∧ Wm (d + 1) (0, 0) JX12_part 148 [some (.ref r_0), some (.int x_1), some (.int x_2), some (.int x_3), none, none, none, some (.int 0), none] [] h8 Q))))))) ∧ (¬ (x2 ≤ x_7) → (∃ r9 : Nat, m_fld h r_0 [11] 11 = some (.ref r9) ∧ (∃ h10 : mH, m_is h r9 x_7 x_6 = some h10 ∧ (∃ r11 : Nat, m_fld h10 r_0 [11] 10 = some (.ref r11) ∧ (∃ x12 : Int32, m_il h10 r11 x_7 = some x12 ∧ ((¬ x12 = x_3 → Wm (d + 1) (0, 0) JX12_part 76 [some (.ref r_0), some (.int x_1), some (.int x_2), some (.int x_3), none, none, some (.int (x_6 + 0)), some (.int (x_7 + 1)), none] [] h10 Q) ∧ (x12 = x_3 → Wm (d + 1) (0, 0) JX12_part 76 [some (.ref r_0), some (.int x_1), some (.int x_2), some (.int x_3), none, none, some (.int (x_6 + 1)), some (.int (x_7 + 1)), none] [] h10 Q))))))))))) : Wm (d + 1) (0, 0) JX12_part 76 [some (.ref r_0), some (.int x_1), some (.int x_2), some (.int x_3), none, none, some (.int x_6), some (.int x_7), none] [] h Q := by
  refine m_iload dX12_part_76 rfl ?_
  refine m_aload_n dX12_part_78 rfl ?_
  obtain ⟨r1, e, hF⟩ := hF
  refine m_get fg_X12_19 dX12_part_79 e ?_
  refine m_iload_n dX12_part_82 rfl ?_
  obtain ⟨x2, e, hF⟩ := hF
  refine m_iald dX12_part_83 e ?_
  refine m_icmp_ge 123 dX12_part_84 (by decide) (fun c => ?_) (fun c => ?_)
  · replace hF := hF.1 c
    refine m_aload_n dX12_part_123 rfl ?_
    obtain ⟨r3, e, hF⟩ := hF
    refine m_get fg_X12_19 dX12_part_124 e ?_
    refine m_bipush dX12_part_127 kb_10 ?_
    refine m_iload dX12_part_129 rfl ?_
    obtain ⟨h4, e, hF⟩ := hF
    refine m_iast dX12_part_131 e ?_
    refine m_aload_n dX12_part_132 rfl ?_
    obtain ⟨r5, e, hF⟩ := hF
    refine m_get fg_X12_22 dX12_part_133 e ?_
    refine m_bipush dX12_part_136 kb_10 ?_
    refine m_aload_n dX12_part_138 rfl ?_
    obtain ⟨r6, e, hF⟩ := hF
    refine m_get fg_X12_22 dX12_part_139 e ?_
    refine m_iload_n dX12_part_142 rfl ?_
    obtain ⟨x7, e, hF⟩ := hF
    refine m_iald dX12_part_143 e ?_
    obtain ⟨h8, e, hF⟩ := hF
    refine m_iast dX12_part_144 e ?_
    refine m_iconst dX12_part_145 ki_0 ?_
    refine m_istore (ls2 := [some (.ref r_0), some (.int x_1), some (.int x_2), some (.int x_3), none, none, some (.int x_6), some (.int 0), none]) dX12_part_146 (by decide) rfl ?_
    refine m_wk [6] rfl ?_
    exact hF
  · replace hF := hF.2 c
    refine m_aload_n dX12_part_87 rfl ?_
    obtain ⟨r9, e, hF⟩ := hF
    refine m_get fg_X12_38 dX12_part_88 e ?_
    refine m_iload dX12_part_91 rfl ?_
    refine m_iload dX12_part_93 rfl ?_
    obtain ⟨h10, e, hF⟩ := hF
    refine m_iast dX12_part_95 e ?_
    refine m_iload dX12_part_96 rfl ?_
    refine m_aload_n dX12_part_98 rfl ?_
    obtain ⟨r11, e, hF⟩ := hF
    refine m_get fg_X12_35 dX12_part_99 e ?_
    refine m_iload dX12_part_102 rfl ?_
    obtain ⟨x12, e, hF⟩ := hF
    refine m_iald dX12_part_104 e ?_
    refine m_iload_n dX12_part_105 rfl ?_
    refine m_icmp_ne 113 dX12_part_106 (by decide) (fun c => ?_) (fun c => ?_)
    · replace hF := hF.1 c
      refine m_iconst dX12_part_113 ki_0 ?_
      refine m_iadd dX12_part_114 ?_
      refine m_istore (ls2 := [some (.ref r_0), some (.int x_1), some (.int x_2), some (.int x_3), none, none, some (.int (x_6 + 0)), some (.int x_7), none]) dX12_part_115 (by decide) rfl ?_
      refine m_iinc (v := x_7 + 1) (ls2 := [some (.ref r_0), some (.int x_1), some (.int x_2), some (.int x_3), none, none, some (.int (x_6 + 0)), some (.int (x_7 + 1)), none]) dX12_part_117 (by decide) rfl (congrArg (_ + ·) ki_1) rfl ?_
      refine m_goto 76 dX12_part_120 (by decide) ?_
      exact hF
    · replace hF := hF.2 c
      refine m_iconst dX12_part_109 ki_1 ?_
      refine m_goto 114 dX12_part_110 (by decide) ?_
      refine m_iadd dX12_part_114 ?_
      refine m_istore (ls2 := [some (.ref r_0), some (.int x_1), some (.int x_2), some (.int x_3), none, none, some (.int (x_6 + 1)), some (.int x_7), none]) dX12_part_115 (by decide) rfl ?_
      refine m_iinc (v := x_7 + 1) (ls2 := [some (.ref r_0), some (.int x_1), some (.int x_2), some (.int x_3), none, none, some (.int (x_6 + 1)), some (.int (x_7 + 1)), none]) dX12_part_117 (by decide) rfl (congrArg (_ + ·) ki_1) rfl ?_
      refine m_goto 76 dX12_part_120 (by decide) ?_
      exact hF
theorem bk_X12_part_148 {d : Nat} (r_0 : Nat) (x_1 : Int32) (x_2 : Int32) (x_3 : Int32) (x_7 : Int32) {h : mH} {Q : Option Value → mH → Prop} (hF : (∃ r1 : Nat, m_fld h r_0 [11] 6 = some (.ref r1) ∧ (∃ x2 : Int32, m_il h r1 x_2 = some x2 ∧ ((x2 ≤ x_7 → (∃ fs6 : List Value, (h).1 r_0 = .inr (11, fs6) ∧ Ev d (0, 0) MX12_lay [.ref r_0, .int x_1] h (fun r3 h4 => ∃ x5 : Int32, r3 = some (.int x5) ∧ Q (some (.int x5)) h4))) ∧ (¬ (x2 ≤ x_7) → Wm (d + 1) (0, 0) JX12_part 162 [some (.ref r_0), some (.int x_1), some (.int x_2), some (.int x_3), none, none, none, some (.int x_7), some (.int 0)] [] h Q))))) : Wm (d + 1) (0, 0) JX12_part 148 [some (.ref r_0), some (.int x_1), some (.int x_2), some (.int x_3), none, none, none, some (.int x_7), none] [] h Q := by
  refine m_iload dX12_part_148 rfl ?_
  refine m_aload_n dX12_part_150 rfl ?_
  obtain ⟨r1, e, hF⟩ := hF
  refine m_get fg_X12_22 dX12_part_151 e ?_
  refine m_iload_n dX12_part_154 rfl ?_
  obtain ⟨x2, e, hF⟩ := hF
  refine m_iald dX12_part_155 e ?_
  refine m_icmp_ge 225 dX12_part_156 (by decide) (fun c => ?_) (fun c => ?_)
  · replace hF := hF.1 c
    refine m_aload_n dX12_part_225 rfl ?_
    refine m_iload_n dX12_part_226 rfl ?_
    obtain ⟨fs6, e, hF⟩ := hF
    refine m_virtual (as := [.int x_1]) (rest := []) cv_X12_131_11 e dX12_part_227 rfl rfl (Nat.le_of_ble_eq_true rfl) (Nat.le_of_eq (Nat.zero_add _)) (Nat.le_of_eq (Nat.zero_add _)) (b1 := (0, 0)) (b2 := (0, 0)) (Ev.mono hF ?_)
    intro r3 h4 hF
    obtain ⟨x5, rfl, hF⟩ := hF
    exact m_ireturn dX12_part_230 trivial hF
  · replace hF := hF.2 c
    refine m_iconst dX12_part_159 ki_0 ?_
    refine m_istore (ls2 := [some (.ref r_0), some (.int x_1), some (.int x_2), some (.int x_3), none, none, none, some (.int x_7), some (.int 0)]) dX12_part_160 (by decide) rfl ?_
    exact hF
theorem bk_X12_part_162 {d : Nat} (r_0 : Nat) (x_1 : Int32) (x_2 : Int32) (x_3 : Int32) (x_7 : Int32) (x_8 : Int32) {h : mH} {Q : Option Value → mH → Prop} (hF : (∃ r1 : Nat, m_fld h r_0 [11] 5 = some (.ref r1) ∧ (∃ x2 : Int32, m_il h r1 x_2 = some x2 ∧ ((x2 ≤ x_8 → Wm (d + 1) (0, 0) JX12_part 148 [some (.ref r_0), some (.int x_1), some (.int x_2), some (.int x_3), none, none, none, some (.int (x_7 + 1)), none] [] h Q) ∧ (¬ (x2 ≤ x_8) → (∃ r3 : Nat, m_fld h r_0 [11] 10 = some (.ref r3) ∧ (∃ x4 : Int32, m_il h r3 x_8 = some x4 ∧ ((¬ x4 = x_3 → Wm (d + 1) (0, 0) JX12_part 162 [some (.ref r_0), some (.int x_1), some (.int x_2), some (.int x_3), none, none, none, some (.int x_7), some (.int (x_8 + 1))] [] h Q) ∧ (x4 = x_3 → (∃ r5 : Nat, m_fld h r_0 [11] 11 = some (.ref r5) ∧ (∃ x6 : Int32, m_il h r5 x_8 = some x6 ∧ (∃ r7 : Nat, m_fld h r_0 [11] 11 = some (.ref r7) ∧ (∃ fs15 : List Value, (h).1 r_0 = .inr (11, fs15) ∧ Ev d (0, 0) MX12_at [.ref r_0, .int x_2, .int x_7, .int x_8] h (fun r8 h9 => ∃ x10 : Int32, r8 = some (.int x10) ∧ (∃ x11 : Int32, m_il h9 r7 x10 = some x11 ∧ (∃ fs14 : List Value, (h9).1 r_0 = .inr (11, fs14) ∧ Ev d (0, 0) MX12_put [.ref r_0, .int 10, .int x_7, .int x6, .int x11] h9 (fun r12 h13 => r12 = none ∧ Wm (d + 1) (0, 0) JX12_part 162 [some (.ref r_0), some (.int x_1), some (.int x_2), some (.int x_3), none, none, none, some (.int x_7), some (.int (x_8 + 1))] [] h13 Q))))))))))))))))) : Wm (d + 1) (0, 0) JX12_part 162 [some (.ref r_0), some (.int x_1), some (.int x_2), some (.int x_3), none, none, none, some (.int x_7), some (.int x_8)] [] h Q := by
  refine m_iload dX12_part_162 rfl ?_
  refine m_aload_n dX12_part_164 rfl ?_
  obtain ⟨r1, e, hF⟩ := hF
  refine m_get fg_X12_19 dX12_part_165 e ?_
  refine m_iload_n dX12_part_168 rfl ?_
  obtain ⟨x2, e, hF⟩ := hF
  refine m_iald dX12_part_169 e ?_
  refine m_icmp_ge 219 dX12_part_170 (by decide) (fun c => ?_) (fun c => ?_)
  · replace hF := hF.1 c
    refine m_iinc (v := x_7 + 1) (ls2 := [some (.ref r_0), some (.int x_1), some (.int x_2), some (.int x_3), none, none, none, some (.int (x_7 + 1)), some (.int x_8)]) dX12_part_219 (by decide) rfl (congrArg (_ + ·) ki_1) rfl ?_
    refine m_goto 148 dX12_part_222 (by decide) ?_
    refine m_wk [8] rfl ?_
    exact hF
  · replace hF := hF.2 c
    refine m_aload_n dX12_part_173 rfl ?_
    obtain ⟨r3, e, hF⟩ := hF
    refine m_get fg_X12_35 dX12_part_174 e ?_
    refine m_iload dX12_part_177 rfl ?_
    obtain ⟨x4, e, hF⟩ := hF
    refine m_iald dX12_part_179 e ?_
    refine m_iload_n dX12_part_180 rfl ?_
    refine m_icmp_ne 213 dX12_part_181 (by decide) (fun c => ?_) (fun c => ?_)
    · replace hF := hF.1 c
      refine m_iinc (v := x_8 + 1) (ls2 := [some (.ref r_0), some (.int x_1), some (.int x_2), some (.int x_3), none, none, none, some (.int x_7), some (.int (x_8 + 1))]) dX12_part_213 (by decide) rfl (congrArg (_ + ·) ki_1) rfl ?_
      refine m_goto 162 dX12_part_216 (by decide) ?_
      exact hF
    · replace hF := hF.2 c
      refine m_aload_n dX12_part_184 rfl ?_
      refine m_bipush dX12_part_185 kb_10 ?_
      refine m_iload dX12_part_187 rfl ?_
      refine m_aload_n dX12_part_189 rfl ?_
      obtain ⟨r5, e, hF⟩ := hF
      refine m_get fg_X12_38 dX12_part_190 e ?_
      refine m_iload dX12_part_193 rfl ?_
      obtain ⟨x6, e, hF⟩ := hF
      refine m_iald dX12_part_195 e ?_
      refine m_aload_n dX12_part_196 rfl ?_
      obtain ⟨r7, e, hF⟩ := hF
      refine m_get fg_X12_38 dX12_part_197 e ?_
      refine m_aload_n dX12_part_200 rfl ?_
      refine m_iload_n dX12_part_201 rfl ?_
      refine m_iload dX12_part_202 rfl ?_
      refine m_iload dX12_part_204 rfl ?_
      obtain ⟨fs15, e, hF⟩ := hF
      refine m_virtual (as := [.int x_2, .int x_7, .int x_8]) (rest := [.ref r7, .int x6, .int x_7, .int 10, .ref r_0]) cv_X12_105_11 e dX12_part_206 rfl rfl (Nat.le_of_ble_eq_true rfl) (Nat.le_of_eq (Nat.zero_add _)) (Nat.le_of_eq (Nat.zero_add _)) (b1 := (0, 0)) (b2 := (0, 0)) (Ev.mono hF ?_)
      intro r8 h9 hF
      obtain ⟨x10, rfl, hF⟩ := hF
      obtain ⟨x11, e, hF⟩ := hF
      refine m_iald dX12_part_209 e ?_
      obtain ⟨fs14, e, hF⟩ := hF
      refine m_virtual (as := [.int 10, .int x_7, .int x6, .int x11]) (rest := []) cv_X12_127_11 e dX12_part_210 rfl rfl (Nat.le_of_ble_eq_true rfl) (Nat.le_of_eq (Nat.zero_add _)) (Nat.le_of_eq (Nat.zero_add _)) (b1 := (0, 0)) (b2 := (0, 0)) (Ev.mono hF ?_)
      intro r12 h13 hF
      obtain ⟨rfl, hF⟩ := hF
      refine m_iinc (v := x_8 + 1) (ls2 := [some (.ref r_0), some (.int x_1), some (.int x_2), some (.int x_3), none, none, none, some (.int x_7), some (.int (x_8 + 1))]) dX12_part_213 (by decide) rfl (congrArg (_ + ·) ki_1) rfl ?_
      refine m_goto 162 dX12_part_216 (by decide) ?_
      exact hF
theorem en_X12_part {d : Nat} {r_0 : Nat} {x_1 : Int32} {x_2 : Int32} {x_3 : Int32} {h : mH} {K : Option Value → mH → Prop} (hk : Wm (d + 1) (0, 0) JX12_part 0 [some (.ref r_0), some (.int x_1), some (.int x_2), some (.int x_3), none, none, none, none, none] [] h (fun r h' => h'.1 0 = h.1 0 ∧ K r h')) : Ev (d + 1) (0, 0) MX12_part [.ref r_0, .int x_1, .int x_2, .int x_3] h K :=
  m_met pn_X12 nl_X12 (fun _ => Nat.le_of_ble_eq_true rfl) hk
theorem bk_X12_rename_0 {d : Nat} (r_0 : Nat) (x_1 : Int32) (x_2 : Int32) (x_3 : Int32) {h : mH} {Q : Option Value → mH → Prop} (hF : (∃ r1 : Nat, m_fld h r_0 [11] 5 = some (.ref r1) ∧ (∃ x2 : Int32, m_il h r1 x_2 = some x2 ∧ Wm (d + 1) (0, 0) JX12_rename 11 [some (.ref r_0), some (.int x_1), some (.int x_2), some (.int x_3), some (.int x2), some (.int 0), none, none, none] [] h Q))) : Wm (d + 1) (0, 0) JX12_rename 0 [some (.ref r_0), some (.int x_1), some (.int x_2), some (.int x_3), none, none, none, none, none] [] h Q := by
  refine m_aload_n dX12_rename_0 rfl ?_
  obtain ⟨r1, e, hF⟩ := hF
  refine m_get fg_X12_19 dX12_rename_1 e ?_
  refine m_iload_n dX12_rename_4 rfl ?_
  obtain ⟨x2, e, hF⟩ := hF
  refine m_iald dX12_rename_5 e ?_
  refine m_istore (ls2 := [some (.ref r_0), some (.int x_1), some (.int x_2), some (.int x_3), some (.int x2), none, none, none, none]) dX12_rename_6 (by decide) rfl ?_
  refine m_iconst dX12_rename_8 ki_0 ?_
  refine m_istore (ls2 := [some (.ref r_0), some (.int x_1), some (.int x_2), some (.int x_3), some (.int x2), some (.int 0), none, none, none]) dX12_rename_9 (by decide) rfl ?_
  exact hF
theorem bk_X12_rename_11 {d : Nat} (r_0 : Nat) (x_1 : Int32) (x_2 : Int32) (x_3 : Int32) (x_4 : Int32) (x_5 : Int32) {h : mH} {Q : Option Value → mH → Prop} (hF : ((x_4 ≤ x_5 → (∃ r1 : Nat, m_fld h r_0 [11] 11 = some (.ref r1) ∧ (∃ h2 : mH, m_is h r1 x_3 0 = some h2 ∧ (∃ r3 : Nat, m_fld h2 r_0 [11] 12 = some (.ref r3) ∧ (∃ h4 : mH, m_is h2 r3 0 x_3 = some h4 ∧ Wm (d + 1) (0, 0) JX12_rename 52 [some (.ref r_0), some (.int x_1), some (.int x_2), none, some (.int x_4), some (.int 1), some (.int 0), none, none] [] h4 Q))))) ∧ (¬ (x_4 ≤ x_5) → (∃ r5 : Nat, m_fld h r_0 [11] 11 = some (.ref r5) ∧ (∃ h6 : mH, m_is h r5 x_5 (-1) = some h6 ∧ Wm (d + 1) (0, 0) JX12_rename 11 [some (.ref r_0), some (.int x_1), some (.int x_2), some (.int x_3), some (.int x_4), some (.int (x_5 + 1)), none, none, none] [] h6 Q))))) : Wm (d + 1) (0, 0) JX12_rename 11 [some (.ref r_0), some (.int x_1), some (.int x_2), some (.int x_3), some (.int x_4), some (.int x_5), none, none, none] [] h Q := by
  refine m_iload dX12_rename_11 rfl ?_
  refine m_iload dX12_rename_13 rfl ?_
  refine m_icmp_ge 32 dX12_rename_15 (by decide) (fun c => ?_) (fun c => ?_)
  · replace hF := hF.1 c
    refine m_aload_n dX12_rename_32 rfl ?_
    obtain ⟨r1, e, hF⟩ := hF
    refine m_get fg_X12_38 dX12_rename_33 e ?_
    refine m_iload_n dX12_rename_36 rfl ?_
    refine m_iconst dX12_rename_37 ki_0 ?_
    obtain ⟨h2, e, hF⟩ := hF
    refine m_iast dX12_rename_38 e ?_
    refine m_aload_n dX12_rename_39 rfl ?_
    obtain ⟨r3, e, hF⟩ := hF
    refine m_get fg_X12_41 dX12_rename_40 e ?_
    refine m_iconst dX12_rename_43 ki_0 ?_
    refine m_iload_n dX12_rename_44 rfl ?_
    obtain ⟨h4, e, hF⟩ := hF
    refine m_iast dX12_rename_45 e ?_
    refine m_iconst dX12_rename_46 ki_1 ?_
    refine m_istore (ls2 := [some (.ref r_0), some (.int x_1), some (.int x_2), some (.int x_3), some (.int x_4), some (.int 1), none, none, none]) dX12_rename_47 (by decide) rfl ?_
    refine m_iconst dX12_rename_49 ki_0 ?_
    refine m_istore (ls2 := [some (.ref r_0), some (.int x_1), some (.int x_2), some (.int x_3), some (.int x_4), some (.int 1), some (.int 0), none, none]) dX12_rename_50 (by decide) rfl ?_
    refine m_wk [3] rfl ?_
    exact hF
  · replace hF := hF.2 c
    refine m_aload_n dX12_rename_18 rfl ?_
    obtain ⟨r5, e, hF⟩ := hF
    refine m_get fg_X12_38 dX12_rename_19 e ?_
    refine m_iload dX12_rename_22 rfl ?_
    refine m_iconst dX12_rename_24 ki_m1 ?_
    obtain ⟨h6, e, hF⟩ := hF
    refine m_iast dX12_rename_25 e ?_
    refine m_iinc (v := x_5 + 1) (ls2 := [some (.ref r_0), some (.int x_1), some (.int x_2), some (.int x_3), some (.int x_4), some (.int (x_5 + 1)), none, none, none]) dX12_rename_26 (by decide) rfl (congrArg (_ + ·) ki_1) rfl ?_
    refine m_goto 11 dX12_rename_29 (by decide) ?_
    exact hF
theorem bk_X12_rename_52 {d : Nat} (r_0 : Nat) (x_1 : Int32) (x_2 : Int32) (x_4 : Int32) (x_5 : Int32) (x_6 : Int32) {h : mH} {Q : Option Value → mH → Prop} (hF : ((x_5 ≤ x_6 → (∃ r1 : Nat, m_fld h r_0 [11] 5 = some (.ref r1) ∧ (∃ h2 : mH, m_is h r1 x_1 x_4 = some h2 ∧ (∃ r3 : Nat, m_fld h2 r_0 [11] 6 = some (.ref r3) ∧ (∃ r4 : Nat, m_fld h2 r_0 [11] 6 = some (.ref r4) ∧ (∃ x5 : Int32, m_il h2 r4 x_2 = some x5 ∧ (∃ h6 : mH, m_is h2 r3 x_1 x5 = some h6 ∧ Wm (d + 1) (0, 0) JX12_rename 155 [some (.ref r_0), some (.int x_1), some (.int x_2), none, some (.int x_4), none, some (.int 0), none, none] [] h6 Q))))))) ∧ (¬ (x_5 ≤ x_6) → Wm (d + 1) (0, 0) JX12_rename 62 [some (.ref r_0), some (.int x_1), some (.int x_2), none, some (.int x_4), some (.int x_5), some (.int x_6), some (.int 0), none] [] h Q))) : Wm (d + 1) (0, 0) JX12_rename 52 [some (.ref r_0), some (.int x_1), some (.int x_2), none, some (.int x_4), some (.int x_5), some (.int x_6), none, none] [] h Q := by
  refine m_iload dX12_rename_52 rfl ?_
  refine m_iload dX12_rename_54 rfl ?_
  refine m_icmp_ge 132 dX12_rename_56 (by decide) (fun c => ?_) (fun c => ?_)
  · replace hF := hF.1 c
    refine m_aload_n dX12_rename_132 rfl ?_
    obtain ⟨r1, e, hF⟩ := hF
    refine m_get fg_X12_19 dX12_rename_133 e ?_
    refine m_iload_n dX12_rename_136 rfl ?_
    refine m_iload dX12_rename_137 rfl ?_
    obtain ⟨h2, e, hF⟩ := hF
    refine m_iast dX12_rename_139 e ?_
    refine m_aload_n dX12_rename_140 rfl ?_
    obtain ⟨r3, e, hF⟩ := hF
    refine m_get fg_X12_22 dX12_rename_141 e ?_
    refine m_iload_n dX12_rename_144 rfl ?_
    refine m_aload_n dX12_rename_145 rfl ?_
    obtain ⟨r4, e, hF⟩ := hF
    refine m_get fg_X12_22 dX12_rename_146 e ?_
    refine m_iload_n dX12_rename_149 rfl ?_
    obtain ⟨x5, e, hF⟩ := hF
    refine m_iald dX12_rename_150 e ?_
    obtain ⟨h6, e, hF⟩ := hF
    refine m_iast dX12_rename_151 e ?_
    refine m_iconst dX12_rename_152 ki_0 ?_
    refine m_istore (ls2 := [some (.ref r_0), some (.int x_1), some (.int x_2), none, some (.int x_4), some (.int x_5), some (.int 0), none, none]) dX12_rename_153 (by decide) rfl ?_
    refine m_wk [5] rfl ?_
    exact hF
  · replace hF := hF.2 c
    refine m_iconst dX12_rename_59 ki_0 ?_
    refine m_istore (ls2 := [some (.ref r_0), some (.int x_1), some (.int x_2), none, some (.int x_4), some (.int x_5), some (.int x_6), some (.int 0), none]) dX12_rename_60 (by decide) rfl ?_
    exact hF
theorem bk_X12_rename_155 {d : Nat} (r_0 : Nat) (x_1 : Int32) (x_2 : Int32) (x_4 : Int32) (x_6 : Int32) {h : mH} {Q : Option Value → mH → Prop} (hF : (∃ r1 : Nat, m_fld h r_0 [11] 6 = some (.ref r1) ∧ (∃ x2 : Int32, m_il h r1 x_2 = some x2 ∧ ((x2 ≤ x_6 → Q none h) ∧ (¬ (x2 ≤ x_6) → Wm (d + 1) (0, 0) JX12_rename 169 [some (.ref r_0), some (.int x_1), some (.int x_2), none, some (.int x_4), none, some (.int x_6), some (.int 0), none] [] h Q))))) : Wm (d + 1) (0, 0) JX12_rename 155 [some (.ref r_0), some (.int x_1), some (.int x_2), none, some (.int x_4), none, some (.int x_6), none, none] [] h Q := by
  refine m_iload dX12_rename_155 rfl ?_
  refine m_aload_n dX12_rename_157 rfl ?_
  obtain ⟨r1, e, hF⟩ := hF
  refine m_get fg_X12_22 dX12_rename_158 e ?_
  refine m_iload_n dX12_rename_161 rfl ?_
  obtain ⟨x2, e, hF⟩ := hF
  refine m_iald dX12_rename_162 e ?_
  refine m_icmp_ge 216 dX12_rename_163 (by decide) (fun c => ?_) (fun c => ?_)
  · replace hF := hF.1 c
    exact m_return dX12_rename_216 trivial hF
  · replace hF := hF.2 c
    refine m_iconst dX12_rename_166 ki_0 ?_
    refine m_istore (ls2 := [some (.ref r_0), some (.int x_1), some (.int x_2), none, some (.int x_4), none, some (.int x_6), some (.int 0), none]) dX12_rename_167 (by decide) rfl ?_
    exact hF
theorem bk_X12_rename_62 {d : Nat} (r_0 : Nat) (x_1 : Int32) (x_2 : Int32) (x_4 : Int32) (x_5 : Int32) (x_6 : Int32) (x_7 : Int32) {h : mH} {Q : Option Value → mH → Prop} (hF : (∃ r1 : Nat, m_fld h r_0 [11] 6 = some (.ref r1) ∧ (∃ x2 : Int32, m_il h r1 x_2 = some x2 ∧ ((x2 ≤ x_7 → Wm (d + 1) (0, 0) JX12_rename 52 [some (.ref r_0), some (.int x_1), some (.int x_2), none, some (.int x_4), some (.int x_5), some (.int (x_6 + 1)), none, none] [] h Q) ∧ (¬ (x2 ≤ x_7) → (∃ r3 : Nat, m_fld h r_0 [11] 12 = some (.ref r3) ∧ (∃ x4 : Int32, m_il h r3 x_6 = some x4 ∧ (∃ fs14 : List Value, (h).1 r_0 = .inr (11, fs14) ∧ Ev d (0, 0) MX12_at [.ref r_0, .int x_2, .int x_7, .int x4] h (fun r5 h6 => ∃ x7 : Int32, r5 = some (.int x7) ∧ (∃ r8 : Nat, m_fld h6 r_0 [11] 11 = some (.ref r8) ∧ (∃ x9 : Int32, m_il h6 r8 x7 = some x9 ∧ ((0 ≤ x9 → Wm (d + 1) (0, 0) JX12_rename 62 [some (.ref r_0), some (.int x_1), some (.int x_2), none, some (.int x_4), some (.int x_5), some (.int x_6), some (.int (x_7 + 1)), none] [] h6 Q) ∧ (¬ (0 ≤ x9) → (∃ r10 : Nat, m_fld h6 r_0 [11] 11 = some (.ref r10) ∧ (∃ h11 : mH, m_is h6 r10 x7 x_5 = some h11 ∧ (∃ r12 : Nat, m_fld h11 r_0 [11] 12 = some (.ref r12) ∧ (∃ h13 : mH, m_is h11 r12 x_5 x7 = some h13 ∧ Wm (d + 1) (0, 0) JX12_rename 62 [some (.ref r_0), some (.int x_1), some (.int x_2), none, some (.int x_4), some (.int (x_5 + 1)), some (.int x_6), some (.int (x_7 + 1)), none] [] h13 Q))))))))))))))))) : Wm (d + 1) (0, 0) JX12_rename 62 [some (.ref r_0), some (.int x_1), some (.int x_2), none, some (.int x_4), some (.int x_5), some (.int x_6), some (.int x_7), none] [] h Q := by
  refine m_iload dX12_rename_62 rfl ?_
  refine m_aload_n dX12_rename_64 rfl ?_
  obtain ⟨r1, e, hF⟩ := hF
  refine m_get fg_X12_22 dX12_rename_65 e ?_
  refine m_iload_n dX12_rename_68 rfl ?_
  obtain ⟨x2, e, hF⟩ := hF
  refine m_iald dX12_rename_69 e ?_
  refine m_icmp_ge 126 dX12_rename_70 (by decide) (fun c => ?_) (fun c => ?_)
  · replace hF := hF.1 c
    refine m_iinc (v := x_6 + 1) (ls2 := [some (.ref r_0), some (.int x_1), some (.int x_2), none, some (.int x_4), some (.int x_5), some (.int (x_6 + 1)), some (.int x_7), none]) dX12_rename_126 (by decide) rfl (congrArg (_ + ·) ki_1) rfl ?_
    refine m_goto 52 dX12_rename_129 (by decide) ?_
    refine m_wk [7] rfl ?_
    exact hF
  · replace hF := hF.2 c
    refine m_aload_n dX12_rename_73 rfl ?_
    refine m_iload_n dX12_rename_74 rfl ?_
    refine m_iload dX12_rename_75 rfl ?_
    refine m_aload_n dX12_rename_77 rfl ?_
    obtain ⟨r3, e, hF⟩ := hF
    refine m_get fg_X12_41 dX12_rename_78 e ?_
    refine m_iload dX12_rename_81 rfl ?_
    obtain ⟨x4, e, hF⟩ := hF
    refine m_iald dX12_rename_83 e ?_
    obtain ⟨fs14, e, hF⟩ := hF
    refine m_virtual (as := [.int x_2, .int x_7, .int x4]) (rest := []) cv_X12_105_11 e dX12_rename_84 rfl rfl (Nat.le_of_ble_eq_true rfl) (Nat.le_of_eq (Nat.zero_add _)) (Nat.le_of_eq (Nat.zero_add _)) (b1 := (0, 0)) (b2 := (0, 0)) (Ev.mono hF ?_)
    intro r5 h6 hF
    obtain ⟨x7, rfl, hF⟩ := hF
    refine m_istore (ls2 := [some (.ref r_0), some (.int x_1), some (.int x_2), none, some (.int x_4), some (.int x_5), some (.int x_6), some (.int x_7), some (.int x7)]) dX12_rename_87 (by decide) rfl ?_
    refine m_aload_n dX12_rename_89 rfl ?_
    obtain ⟨r8, e, hF⟩ := hF
    refine m_get fg_X12_38 dX12_rename_90 e ?_
    refine m_iload dX12_rename_93 rfl ?_
    obtain ⟨x9, e, hF⟩ := hF
    refine m_iald dX12_rename_95 e ?_
    refine m_if_ge 120 dX12_rename_96 (by decide) (fun c => ?_) (fun c => ?_)
    · replace hF := hF.1 c
      refine m_iinc (v := x_7 + 1) (ls2 := [some (.ref r_0), some (.int x_1), some (.int x_2), none, some (.int x_4), some (.int x_5), some (.int x_6), some (.int (x_7 + 1)), some (.int x7)]) dX12_rename_120 (by decide) rfl (congrArg (_ + ·) ki_1) rfl ?_
      refine m_goto 62 dX12_rename_123 (by decide) ?_
      refine m_wk [8] rfl ?_
      exact hF
    · replace hF := hF.2 c
      refine m_aload_n dX12_rename_99 rfl ?_
      obtain ⟨r10, e, hF⟩ := hF
      refine m_get fg_X12_38 dX12_rename_100 e ?_
      refine m_iload dX12_rename_103 rfl ?_
      refine m_iload dX12_rename_105 rfl ?_
      obtain ⟨h11, e, hF⟩ := hF
      refine m_iast dX12_rename_107 e ?_
      refine m_aload_n dX12_rename_108 rfl ?_
      obtain ⟨r12, e, hF⟩ := hF
      refine m_get fg_X12_41 dX12_rename_109 e ?_
      refine m_iload dX12_rename_112 rfl ?_
      refine m_iload dX12_rename_114 rfl ?_
      obtain ⟨h13, e, hF⟩ := hF
      refine m_iast dX12_rename_116 e ?_
      refine m_iinc (v := x_5 + 1) (ls2 := [some (.ref r_0), some (.int x_1), some (.int x_2), none, some (.int x_4), some (.int (x_5 + 1)), some (.int x_6), some (.int x_7), some (.int x7)]) dX12_rename_117 (by decide) rfl (congrArg (_ + ·) ki_1) rfl ?_
      refine m_iinc (v := x_7 + 1) (ls2 := [some (.ref r_0), some (.int x_1), some (.int x_2), none, some (.int x_4), some (.int (x_5 + 1)), some (.int x_6), some (.int (x_7 + 1)), some (.int x7)]) dX12_rename_120 (by decide) rfl (congrArg (_ + ·) ki_1) rfl ?_
      refine m_goto 62 dX12_rename_123 (by decide) ?_
      refine m_wk [8] rfl ?_
      exact hF
theorem bk_X12_rename_169 {d : Nat} (r_0 : Nat) (x_1 : Int32) (x_2 : Int32) (x_4 : Int32) (x_6 : Int32) (x_7 : Int32) {h : mH} {Q : Option Value → mH → Prop} (hF : ((x_4 ≤ x_7 → Wm (d + 1) (0, 0) JX12_rename 155 [some (.ref r_0), some (.int x_1), some (.int x_2), none, some (.int x_4), none, some (.int (x_6 + 1)), none, none] [] h Q) ∧ (¬ (x_4 ≤ x_7) → (∃ r1 : Nat, m_fld h r_0 [11] 11 = some (.ref r1) ∧ (∃ x2 : Int32, m_il h r1 x_7 = some x2 ∧ (∃ r3 : Nat, m_fld h r_0 [11] 11 = some (.ref r3) ∧ (∃ fs11 : List Value, (h).1 r_0 = .inr (11, fs11) ∧ Ev d (0, 0) MX12_at [.ref r_0, .int x_2, .int x_6, .int x_7] h (fun r4 h5 => ∃ x6 : Int32, r4 = some (.int x6) ∧ (∃ x7 : Int32, m_il h5 r3 x6 = some x7 ∧ (∃ fs10 : List Value, (h5).1 r_0 = .inr (11, fs10) ∧ Ev d (0, 0) MX12_put [.ref r_0, .int x_1, .int x_6, .int x2, .int x7] h5 (fun r8 h9 => r8 = none ∧ Wm (d + 1) (0, 0) JX12_rename 169 [some (.ref r_0), some (.int x_1), some (.int x_2), none, some (.int x_4), none, some (.int x_6), some (.int (x_7 + 1)), none] [] h9 Q))))))))))) : Wm (d + 1) (0, 0) JX12_rename 169 [some (.ref r_0), some (.int x_1), some (.int x_2), none, some (.int x_4), none, some (.int x_6), some (.int x_7), none] [] h Q := by
  refine m_iload dX12_rename_169 rfl ?_
  refine m_iload dX12_rename_171 rfl ?_
  refine m_icmp_ge 210 dX12_rename_173 (by decide) (fun c => ?_) (fun c => ?_)
  · replace hF := hF.1 c
    refine m_iinc (v := x_6 + 1) (ls2 := [some (.ref r_0), some (.int x_1), some (.int x_2), none, some (.int x_4), none, some (.int (x_6 + 1)), some (.int x_7), none]) dX12_rename_210 (by decide) rfl (congrArg (_ + ·) ki_1) rfl ?_
    refine m_goto 155 dX12_rename_213 (by decide) ?_
    refine m_wk [7] rfl ?_
    exact hF
  · replace hF := hF.2 c
    refine m_aload_n dX12_rename_176 rfl ?_
    refine m_iload_n dX12_rename_177 rfl ?_
    refine m_iload dX12_rename_178 rfl ?_
    refine m_aload_n dX12_rename_180 rfl ?_
    obtain ⟨r1, e, hF⟩ := hF
    refine m_get fg_X12_38 dX12_rename_181 e ?_
    refine m_iload dX12_rename_184 rfl ?_
    obtain ⟨x2, e, hF⟩ := hF
    refine m_iald dX12_rename_186 e ?_
    refine m_aload_n dX12_rename_187 rfl ?_
    obtain ⟨r3, e, hF⟩ := hF
    refine m_get fg_X12_38 dX12_rename_188 e ?_
    refine m_aload_n dX12_rename_191 rfl ?_
    refine m_iload_n dX12_rename_192 rfl ?_
    refine m_iload dX12_rename_193 rfl ?_
    refine m_iload dX12_rename_195 rfl ?_
    obtain ⟨fs11, e, hF⟩ := hF
    refine m_virtual (as := [.int x_2, .int x_6, .int x_7]) (rest := [.ref r3, .int x2, .int x_6, .int x_1, .ref r_0]) cv_X12_105_11 e dX12_rename_197 rfl rfl (Nat.le_of_ble_eq_true rfl) (Nat.le_of_eq (Nat.zero_add _)) (Nat.le_of_eq (Nat.zero_add _)) (b1 := (0, 0)) (b2 := (0, 0)) (Ev.mono hF ?_)
    intro r4 h5 hF
    obtain ⟨x6, rfl, hF⟩ := hF
    obtain ⟨x7, e, hF⟩ := hF
    refine m_iald dX12_rename_200 e ?_
    obtain ⟨fs10, e, hF⟩ := hF
    refine m_virtual (as := [.int x_1, .int x_6, .int x2, .int x7]) (rest := []) cv_X12_127_11 e dX12_rename_201 rfl rfl (Nat.le_of_ble_eq_true rfl) (Nat.le_of_eq (Nat.zero_add _)) (Nat.le_of_eq (Nat.zero_add _)) (b1 := (0, 0)) (b2 := (0, 0)) (Ev.mono hF ?_)
    intro r8 h9 hF
    obtain ⟨rfl, hF⟩ := hF
    refine m_iinc (v := x_7 + 1) (ls2 := [some (.ref r_0), some (.int x_1), some (.int x_2), none, some (.int x_4), none, some (.int x_6), some (.int (x_7 + 1)), none]) dX12_rename_204 (by decide) rfl (congrArg (_ + ·) ki_1) rfl ?_
    refine m_goto 169 dX12_rename_207 (by decide) ?_
    exact hF
theorem en_X12_rename {d : Nat} {r_0 : Nat} {x_1 : Int32} {x_2 : Int32} {x_3 : Int32} {h : mH} {K : Option Value → mH → Prop} (hk : Wm (d + 1) (0, 0) JX12_rename 0 [some (.ref r_0), some (.int x_1), some (.int x_2), some (.int x_3), none, none, none, none, none] [] h (fun r h' => h'.1 0 = h.1 0 ∧ K r h')) : Ev (d + 1) (0, 0) MX12_rename [.ref r_0, .int x_1, .int x_2, .int x_3] h K :=
  m_met pn_X12 nl_X12 (fun _ => Nat.le_of_ble_eq_true rfl) hk
theorem bk_X12_compare_0 {d : Nat} (r_0 : Nat) (x_1 : Int32) (x_2 : Int32) {h : mH} {Q : Option Value → mH → Prop} (hF : Wm (d + 1) (0, 0) JX12_compare 2 [some (.ref r_0), some (.int x_1), some (.int x_2), some (.int 0), none] [] h Q) : Wm (d + 1) (0, 0) JX12_compare 0 [some (.ref r_0), some (.int x_1), some (.int x_2), none, none] [] h Q := by
  refine m_iconst dX12_compare_0 ki_0 ?_
  refine m_istore_n (ls2 := [some (.ref r_0), some (.int x_1), some (.int x_2), some (.int 0), none]) dX12_compare_1 (by decide) rfl ?_
  exact hF
theorem bk_X12_compare_2 {d : Nat} (r_0 : Nat) (x_1 : Int32) (x_2 : Int32) (x_3 : Int32) {h : mH} {Q : Option Value → mH → Prop} (hF : (∃ r1 : Nat, m_fld h r_0 [11] 6 = some (.ref r1) ∧ (∃ x2 : Int32, m_il h r1 x_1 = some x2 ∧ ((x2 ≤ x_3 → Q (some (.int 0)) h) ∧ (¬ (x2 ≤ x_3) → Wm (d + 1) (0, 0) JX12_compare 15 [some (.ref r_0), some (.int x_1), some (.int x_2), some (.int x_3), some (.int 0)] [] h Q))))) : Wm (d + 1) (0, 0) JX12_compare 2 [some (.ref r_0), some (.int x_1), some (.int x_2), some (.int x_3), none] [] h Q := by
  refine m_iload_n dX12_compare_2 rfl ?_
  refine m_aload_n dX12_compare_3 rfl ?_
  obtain ⟨r1, e, hF⟩ := hF
  refine m_get fg_X12_22 dX12_compare_4 e ?_
  refine m_iload_n dX12_compare_7 rfl ?_
  obtain ⟨x2, e, hF⟩ := hF
  refine m_iald dX12_compare_8 e ?_
  refine m_icmp_ge 75 dX12_compare_9 (by decide) (fun c => ?_) (fun c => ?_)
  · replace hF := hF.1 c
    refine m_iconst dX12_compare_75 ki_0 ?_
    exact m_ireturn dX12_compare_76 trivial hF
  · replace hF := hF.2 c
    refine m_iconst dX12_compare_12 ki_0 ?_
    refine m_istore (ls2 := [some (.ref r_0), some (.int x_1), some (.int x_2), some (.int x_3), some (.int 0)]) dX12_compare_13 (by decide) rfl ?_
    exact hF
theorem bk_X12_compare_15 {d : Nat} (r_0 : Nat) (x_1 : Int32) (x_2 : Int32) (x_3 : Int32) (x_4 : Int32) {h : mH} {Q : Option Value → mH → Prop} (hF : (∃ r1 : Nat, m_fld h r_0 [11] 5 = some (.ref r1) ∧ (∃ x2 : Int32, m_il h r1 x_1 = some x2 ∧ ((x2 ≤ x_4 → Wm (d + 1) (0, 0) JX12_compare 2 [some (.ref r_0), some (.int x_1), some (.int x_2), some (.int (x_3 + 1)), none] [] h Q) ∧ (¬ (x2 ≤ x_4) → (∃ fs18 : List Value, (h).1 r_0 = .inr (11, fs18) ∧ Ev d (0, 0) MX12_at [.ref r_0, .int x_1, .int x_3, .int x_4] h (fun r3 h4 => ∃ x5 : Int32, r3 = some (.int x5) ∧ (∃ fs17 : List Value, (h4).1 r_0 = .inr (11, fs17) ∧ Ev d (0, 0) MX12_at [.ref r_0, .int x_2, .int x_3, .int x_4] h4 (fun r6 h7 => ∃ x8 : Int32, r6 = some (.int x8) ∧ ((x5 = x8 → Wm (d + 1) (0, 0) JX12_compare 15 [some (.ref r_0), some (.int x_1), some (.int x_2), some (.int x_3), some (.int (x_4 + 1))] [] h7 Q) ∧ (¬ (x5 = x8) → (∃ fs16 : List Value, (h7).1 r_0 = .inr (11, fs16) ∧ Ev d (0, 0) MX12_at [.ref r_0, .int x_1, .int x_3, .int x_4] h7 (fun r9 h10 => ∃ x11 : Int32, r9 = some (.int x11) ∧ (∃ fs15 : List Value, (h10).1 r_0 = .inr (11, fs15) ∧ Ev d (0, 0) MX12_at [.ref r_0, .int x_2, .int x_3, .int x_4] h10 (fun r12 h13 => ∃ x14 : Int32, r12 = some (.int x14) ∧ Q (some (.int (x11 - x14))) h13))))))))))))))) : Wm (d + 1) (0, 0) JX12_compare 15 [some (.ref r_0), some (.int x_1), some (.int x_2), some (.int x_3), some (.int x_4)] [] h Q := by
  refine m_iload dX12_compare_15 rfl ?_
  refine m_aload_n dX12_compare_17 rfl ?_
  obtain ⟨r1, e, hF⟩ := hF
  refine m_get fg_X12_19 dX12_compare_18 e ?_
  refine m_iload_n dX12_compare_21 rfl ?_
  obtain ⟨x2, e, hF⟩ := hF
  refine m_iald dX12_compare_22 e ?_
  refine m_icmp_ge 69 dX12_compare_23 (by decide) (fun c => ?_) (fun c => ?_)
  · replace hF := hF.1 c
    refine m_iinc (v := x_3 + 1) (ls2 := [some (.ref r_0), some (.int x_1), some (.int x_2), some (.int (x_3 + 1)), some (.int x_4)]) dX12_compare_69 (by decide) rfl (congrArg (_ + ·) ki_1) rfl ?_
    refine m_goto 2 dX12_compare_72 (by decide) ?_
    refine m_wk [4] rfl ?_
    exact hF
  · replace hF := hF.2 c
    refine m_aload_n dX12_compare_26 rfl ?_
    refine m_iload_n dX12_compare_27 rfl ?_
    refine m_iload_n dX12_compare_28 rfl ?_
    refine m_iload dX12_compare_29 rfl ?_
    obtain ⟨fs18, e, hF⟩ := hF
    refine m_virtual (as := [.int x_1, .int x_3, .int x_4]) (rest := []) cv_X12_105_11 e dX12_compare_31 rfl rfl (Nat.le_of_ble_eq_true rfl) (Nat.le_of_eq (Nat.zero_add _)) (Nat.le_of_eq (Nat.zero_add _)) (b1 := (0, 0)) (b2 := (0, 0)) (Ev.mono hF ?_)
    intro r3 h4 hF
    obtain ⟨x5, rfl, hF⟩ := hF
    refine m_aload_n dX12_compare_34 rfl ?_
    refine m_iload_n dX12_compare_35 rfl ?_
    refine m_iload_n dX12_compare_36 rfl ?_
    refine m_iload dX12_compare_37 rfl ?_
    obtain ⟨fs17, e, hF⟩ := hF
    refine m_virtual (as := [.int x_2, .int x_3, .int x_4]) (rest := [.int x5]) cv_X12_105_11 e dX12_compare_39 rfl rfl (Nat.le_of_ble_eq_true rfl) (Nat.le_of_eq (Nat.zero_add _)) (Nat.le_of_eq (Nat.zero_add _)) (b1 := (0, 0)) (b2 := (0, 0)) (Ev.mono hF ?_)
    intro r6 h7 hF
    obtain ⟨x8, rfl, hF⟩ := hF
    refine m_icmp_eq 63 dX12_compare_42 (by decide) (fun c => ?_) (fun c => ?_)
    · replace hF := hF.1 c
      refine m_iinc (v := x_4 + 1) (ls2 := [some (.ref r_0), some (.int x_1), some (.int x_2), some (.int x_3), some (.int (x_4 + 1))]) dX12_compare_63 (by decide) rfl (congrArg (_ + ·) ki_1) rfl ?_
      refine m_goto 15 dX12_compare_66 (by decide) ?_
      exact hF
    · replace hF := hF.2 c
      refine m_aload_n dX12_compare_45 rfl ?_
      refine m_iload_n dX12_compare_46 rfl ?_
      refine m_iload_n dX12_compare_47 rfl ?_
      refine m_iload dX12_compare_48 rfl ?_
      obtain ⟨fs16, e, hF⟩ := hF
      refine m_virtual (as := [.int x_1, .int x_3, .int x_4]) (rest := []) cv_X12_105_11 e dX12_compare_50 rfl rfl (Nat.le_of_ble_eq_true rfl) (Nat.le_of_eq (Nat.zero_add _)) (Nat.le_of_eq (Nat.zero_add _)) (b1 := (0, 0)) (b2 := (0, 0)) (Ev.mono hF ?_)
      intro r9 h10 hF
      obtain ⟨x11, rfl, hF⟩ := hF
      refine m_aload_n dX12_compare_53 rfl ?_
      refine m_iload_n dX12_compare_54 rfl ?_
      refine m_iload_n dX12_compare_55 rfl ?_
      refine m_iload dX12_compare_56 rfl ?_
      obtain ⟨fs15, e, hF⟩ := hF
      refine m_virtual (as := [.int x_2, .int x_3, .int x_4]) (rest := [.int x11]) cv_X12_105_11 e dX12_compare_58 rfl rfl (Nat.le_of_ble_eq_true rfl) (Nat.le_of_eq (Nat.zero_add _)) (Nat.le_of_eq (Nat.zero_add _)) (b1 := (0, 0)) (b2 := (0, 0)) (Ev.mono hF ?_)
      intro r12 h13 hF
      obtain ⟨x14, rfl, hF⟩ := hF
      refine m_isub dX12_compare_61 ?_
      exact m_ireturn dX12_compare_62 trivial hF
theorem en_X12_compare {d : Nat} {r_0 : Nat} {x_1 : Int32} {x_2 : Int32} {h : mH} {K : Option Value → mH → Prop} (hk : Wm (d + 1) (0, 0) JX12_compare 0 [some (.ref r_0), some (.int x_1), some (.int x_2), none, none] [] h (fun r h' => h'.1 0 = h.1 0 ∧ K r h')) : Ev (d + 1) (0, 0) MX12_compare [.ref r_0, .int x_1, .int x_2] h K :=
  m_met pn_X12 nl_X12 (fun _ => Nat.le_of_ble_eq_true rfl) hk
theorem bk_X12_least_0 {d : Nat} (r_0 : Nat) (x_1 : Int32) (x_2 : Int32) {h : mH} {Q : Option Value → mH → Prop} (hF : Wm (d + 1) (0, 0) JX12_least 5 [some (.ref r_0), some (.int x_1), some (.int x_2), some (.int 0), some (.int 0), none] [] h Q) : Wm (d + 1) (0, 0) JX12_least 0 [some (.ref r_0), some (.int x_1), some (.int x_2), none, none, none] [] h Q := by
  refine m_iconst dX12_least_0 ki_0 ?_
  refine m_istore_n (ls2 := [some (.ref r_0), some (.int x_1), some (.int x_2), some (.int 0), none, none]) dX12_least_1 (by decide) rfl ?_
  refine m_iconst dX12_least_2 ki_0 ?_
  refine m_istore (ls2 := [some (.ref r_0), some (.int x_1), some (.int x_2), some (.int 0), some (.int 0), none]) dX12_least_3 (by decide) rfl ?_
  exact hF
theorem bk_X12_least_5 {d : Nat} (r_0 : Nat) (x_1 : Int32) (x_2 : Int32) (x_3 : Int32) (x_4 : Int32) {h : mH} {Q : Option Value → mH → Prop} (hF : (∃ r1 : Nat, m_fld h r_0 [11] 5 = some (.ref r1) ∧ (∃ x2 : Int32, m_il h r1 x_2 = some x2 ∧ ((x2 ≤ x_4 → Q (some (.int x_3)) h) ∧ (¬ (x2 ≤ x_4) → (∃ fs15 : List Value, (h).1 r_0 = .inr (11, fs15) ∧ Ev d (0, 0) MX12_rename [.ref r_0, .int 11, .int x_2, .int x_4] h (fun r3 h4 => r3 = none ∧ ((¬ x_4 = 0 → (∃ fs11 : List Value, (h4).1 r_0 = .inr (11, fs11) ∧ Ev d (0, 0) MX12_compare [.ref r_0, .int 11, .int x_1] h4 (fun r5 h6 => ∃ x7 : Int32, r5 = some (.int x7) ∧ ((0 ≤ x7 → ((¬ x7 = 0 → Wm (d + 1) (0, 0) JX12_least 5 [some (.ref r_0), some (.int x_1), some (.int x_2), some (.int x_3), some (.int (x_4 + 1)), none] [] h6 Q) ∧ (x7 = 0 → Wm (d + 1) (0, 0) JX12_least 5 [some (.ref r_0), some (.int x_1), some (.int x_2), some (.int (x_3 + 1)), some (.int (x_4 + 1)), none] [] h6 Q))) ∧ (¬ (0 ≤ x7) → (∃ fs10 : List Value, (h6).1 r_0 = .inr (11, fs10) ∧ Ev d (0, 0) MX12_become [.ref r_0, .int x_1, .int 11] h6 (fun r8 h9 => r8 = none ∧ Wm (d + 1) (0, 0) JX12_least 5 [some (.ref r_0), some (.int x_1), some (.int x_2), some (.int 1), some (.int (x_4 + 1)), none] [] h9 Q))))))) ∧ (x_4 = 0 → (∃ fs14 : List Value, (h4).1 r_0 = .inr (11, fs14) ∧ Ev d (0, 0) MX12_become [.ref r_0, .int x_1, .int 11] h4 (fun r12 h13 => r12 = none ∧ Wm (d + 1) (0, 0) JX12_least 5 [some (.ref r_0), some (.int x_1), some (.int x_2), some (.int 1), some (.int (x_4 + 1)), none] [] h13 Q))))))))))) : Wm (d + 1) (0, 0) JX12_least 5 [some (.ref r_0), some (.int x_1), some (.int x_2), some (.int x_3), some (.int x_4), none] [] h Q := by
  refine m_iload dX12_least_5 rfl ?_
  refine m_aload_n dX12_least_7 rfl ?_
  obtain ⟨r1, e, hF⟩ := hF
  refine m_get fg_X12_19 dX12_least_8 e ?_
  refine m_iload_n dX12_least_11 rfl ?_
  obtain ⟨x2, e, hF⟩ := hF
  refine m_iald dX12_least_12 e ?_
  refine m_icmp_ge 74 dX12_least_13 (by decide) (fun c => ?_) (fun c => ?_)
  · replace hF := hF.1 c
    refine m_iload_n dX12_least_74 rfl ?_
    exact m_ireturn dX12_least_75 trivial hF
  · replace hF := hF.2 c
    refine m_aload_n dX12_least_16 rfl ?_
    refine m_bipush dX12_least_17 kb_11 ?_
    refine m_iload_n dX12_least_19 rfl ?_
    refine m_iload dX12_least_20 rfl ?_
    obtain ⟨fs15, e, hF⟩ := hF
    refine m_virtual (as := [.int 11, .int x_2, .int x_4]) (rest := []) cv_X12_141_11 e dX12_least_22 rfl rfl (Nat.le_of_ble_eq_true rfl) (Nat.le_of_eq (Nat.zero_add _)) (Nat.le_of_eq (Nat.zero_add _)) (b1 := (0, 0)) (b2 := (0, 0)) (Ev.mono hF ?_)
    intro r3 h4 hF
    obtain ⟨rfl, hF⟩ := hF
    refine m_iload dX12_least_25 rfl ?_
    refine m_if_ne 34 dX12_least_27 (by decide) (fun c => ?_) (fun c => ?_)
    · replace hF := hF.1 c
      refine m_aload_n dX12_least_34 rfl ?_
      refine m_bipush dX12_least_35 kb_11 ?_
      refine m_iload_n dX12_least_37 rfl ?_
      obtain ⟨fs11, e, hF⟩ := hF
      refine m_virtual (as := [.int 11, .int x_1]) (rest := []) cv_X12_145_11 e dX12_least_38 rfl rfl (Nat.le_of_ble_eq_true rfl) (Nat.le_of_eq (Nat.zero_add _)) (Nat.le_of_eq (Nat.zero_add _)) (b1 := (0, 0)) (b2 := (0, 0)) (Ev.mono hF ?_)
      intro r5 h6 hF
      obtain ⟨x7, rfl, hF⟩ := hF
      refine m_istore (ls2 := [some (.ref r_0), some (.int x_1), some (.int x_2), some (.int x_3), some (.int x_4), some (.int x7)]) dX12_least_41 (by decide) rfl ?_
      refine m_iload dX12_least_43 rfl ?_
      refine m_if_ge 60 dX12_least_45 (by decide) (fun c => ?_) (fun c => ?_)
      · replace hF := hF.1 c
        refine m_iload dX12_least_60 rfl ?_
        refine m_if_ne 68 dX12_least_62 (by decide) (fun c => ?_) (fun c => ?_)
        · replace hF := hF.1 c
          refine m_iinc (v := x_4 + 1) (ls2 := [some (.ref r_0), some (.int x_1), some (.int x_2), some (.int x_3), some (.int (x_4 + 1)), some (.int x7)]) dX12_least_68 (by decide) rfl (congrArg (_ + ·) ki_1) rfl ?_
          refine m_goto 5 dX12_least_71 (by decide) ?_
          refine m_wk [5] rfl ?_
          exact hF
        · replace hF := hF.2 c
          refine m_iinc (v := x_3 + 1) (ls2 := [some (.ref r_0), some (.int x_1), some (.int x_2), some (.int (x_3 + 1)), some (.int x_4), some (.int x7)]) dX12_least_65 (by decide) rfl (congrArg (_ + ·) ki_1) rfl ?_
          refine m_iinc (v := x_4 + 1) (ls2 := [some (.ref r_0), some (.int x_1), some (.int x_2), some (.int (x_3 + 1)), some (.int (x_4 + 1)), some (.int x7)]) dX12_least_68 (by decide) rfl (congrArg (_ + ·) ki_1) rfl ?_
          refine m_goto 5 dX12_least_71 (by decide) ?_
          refine m_wk [5] rfl ?_
          exact hF
      · replace hF := hF.2 c
        refine m_aload_n dX12_least_48 rfl ?_
        refine m_iload_n dX12_least_49 rfl ?_
        refine m_bipush dX12_least_50 kb_11 ?_
        obtain ⟨fs10, e, hF⟩ := hF
        refine m_virtual (as := [.int x_1, .int 11]) (rest := []) cv_X12_113_11 e dX12_least_52 rfl rfl (Nat.le_of_ble_eq_true rfl) (Nat.le_of_eq (Nat.zero_add _)) (Nat.le_of_eq (Nat.zero_add _)) (b1 := (0, 0)) (b2 := (0, 0)) (Ev.mono hF ?_)
        intro r8 h9 hF
        obtain ⟨rfl, hF⟩ := hF
        refine m_iconst dX12_least_55 ki_1 ?_
        refine m_istore_n (ls2 := [some (.ref r_0), some (.int x_1), some (.int x_2), some (.int 1), some (.int x_4), some (.int x7)]) dX12_least_56 (by decide) rfl ?_
        refine m_goto 68 dX12_least_57 (by decide) ?_
        refine m_iinc (v := x_4 + 1) (ls2 := [some (.ref r_0), some (.int x_1), some (.int x_2), some (.int 1), some (.int (x_4 + 1)), some (.int x7)]) dX12_least_68 (by decide) rfl (congrArg (_ + ·) ki_1) rfl ?_
        refine m_goto 5 dX12_least_71 (by decide) ?_
        refine m_wk [5] rfl ?_
        exact hF
    · replace hF := hF.2 c
      refine m_iconst dX12_least_30 ki_m1 ?_
      refine m_goto 41 dX12_least_31 (by decide) ?_
      refine m_istore (ls2 := [some (.ref r_0), some (.int x_1), some (.int x_2), some (.int x_3), some (.int x_4), some (.int (-1))]) dX12_least_41 (by decide) rfl ?_
      refine m_iload dX12_least_43 rfl ?_
      refine m_if_ge 60 dX12_least_45 (by decide) (fun c => absurd c (by decide)) (fun _ => ?_)
      refine m_aload_n dX12_least_48 rfl ?_
      refine m_iload_n dX12_least_49 rfl ?_
      refine m_bipush dX12_least_50 kb_11 ?_
      obtain ⟨fs14, e, hF⟩ := hF
      refine m_virtual (as := [.int x_1, .int 11]) (rest := []) cv_X12_113_11 e dX12_least_52 rfl rfl (Nat.le_of_ble_eq_true rfl) (Nat.le_of_eq (Nat.zero_add _)) (Nat.le_of_eq (Nat.zero_add _)) (b1 := (0, 0)) (b2 := (0, 0)) (Ev.mono hF ?_)
      intro r12 h13 hF
      obtain ⟨rfl, hF⟩ := hF
      refine m_iconst dX12_least_55 ki_1 ?_
      refine m_istore_n (ls2 := [some (.ref r_0), some (.int x_1), some (.int x_2), some (.int 1), some (.int x_4), some (.int (-1))]) dX12_least_56 (by decide) rfl ?_
      refine m_goto 68 dX12_least_57 (by decide) ?_
      refine m_iinc (v := x_4 + 1) (ls2 := [some (.ref r_0), some (.int x_1), some (.int x_2), some (.int 1), some (.int (x_4 + 1)), some (.int (-1))]) dX12_least_68 (by decide) rfl (congrArg (_ + ·) ki_1) rfl ?_
      refine m_goto 5 dX12_least_71 (by decide) ?_
      refine m_wk [5] rfl ?_
      exact hF
theorem en_X12_least {d : Nat} {r_0 : Nat} {x_1 : Int32} {x_2 : Int32} {h : mH} {K : Option Value → mH → Prop} (hk : Wm (d + 1) (0, 0) JX12_least 0 [some (.ref r_0), some (.int x_1), some (.int x_2), none, none, none] [] h (fun r h' => h'.1 0 = h.1 0 ∧ K r h')) : Ev (d + 1) (0, 0) MX12_least [.ref r_0, .int x_1, .int x_2] h K :=
  m_met pn_X12 nl_X12 (fun _ => Nat.le_of_ble_eq_true rfl) hk
theorem bk_X12_name_0 {d : Nat} (r_0 : Nat) (x_1 : Int32) (x_2 : Int32) {h : mH} {Q : Option Value → mH → Prop} (hF : (∃ h1 : mH, m_put h r_0 11 0 (.int 0) = some h1 ∧ Ev d (0, 0) MX12_isPlace [.int x_1] h1 (fun r2 h3 => ∃ x4 : Int32, r2 = some (.int x4) ∧ ((x4 = 0 → Q (some (.int (-1000001))) h3) ∧ (¬ (x4 = 0) → Ev d (0, 0) MX12_isPlace [.int x_2] h3 (fun r5 h6 => ∃ x7 : Int32, r5 = some (.int x7) ∧ ((¬ x7 = 0 → (∃ fs19 : List Value, (h6).1 r_0 = .inr (11, fs19) ∧ Ev d (0, 0) MX12_look [.ref r_0, .int x_2, .int 1] h6 (fun r8 h9 => ∃ x10 : Int32, r8 = some (.int x10) ∧ ((0 ≤ x10 → (∃ fs18 : List Value, (h9).1 r_0 = .inr (11, fs18) ∧ Ev d (0, 0) MX12_least [.ref r_0, .int 10, .int x_2] h9 (fun r11 h12 => ∃ x13 : Int32, r11 = some (.int x13) ∧ (∃ fs17 : List Value, (h12).1 r_0 = .inr (11, fs17) ∧ Ev d (0, 0) MX12_lay [.ref r_0, .int x_1] h12 (fun r14 h15 => ∃ x16 : Int32, r14 = some (.int x16) ∧ Q (some (.int x16)) h15))))) ∧ (¬ (0 ≤ x10) → Q (some (.int x10)) h9))))) ∧ (x7 = 0 → Q (some (.int (-1000001))) h6)))))))) : Wm (d + 1) (0, 0) JX12_name 0 [some (.ref r_0), some (.int x_1), some (.int x_2), none, none] [] h Q := by
  refine m_aload_n dX12_name_0 rfl ?_
  refine m_iconst dX12_name_1 ki_0 ?_
  obtain ⟨h1, e, hF⟩ := hF
  refine m_putf fp_X12_78_11 dX12_name_2 trivial e ?_
  refine m_iload_n dX12_name_5 rfl ?_
  refine m_static (as := [.int x_1]) (rest := []) cs_X12_120 dX12_name_6 rfl rfl (Nat.le_of_ble_eq_true rfl) (Nat.le_of_eq (Nat.zero_add _)) (Nat.le_of_eq (Nat.zero_add _)) (b1 := (0, 0)) (b2 := (0, 0)) (Ev.mono hF ?_)
  intro r2 h3 hF
  obtain ⟨x4, rfl, hF⟩ := hF
  refine m_if_eq 19 dX12_name_9 (by decide) (fun c => ?_) (fun c => ?_)
  · replace hF := hF.1 c
    refine m_ldc dX12_name_19 kc_X12_98 ?_
    exact m_ireturn dX12_name_21 trivial hF
  · replace hF := hF.2 c
    refine m_iload_n dX12_name_12 rfl ?_
    refine m_static (as := [.int x_2]) (rest := []) cs_X12_120 dX12_name_13 rfl rfl (Nat.le_of_ble_eq_true rfl) (Nat.le_of_eq (Nat.zero_add _)) (Nat.le_of_eq (Nat.zero_add _)) (b1 := (0, 0)) (b2 := (0, 0)) (Ev.mono hF ?_)
    intro r5 h6 hF
    obtain ⟨x7, rfl, hF⟩ := hF
    refine m_if_ne 22 dX12_name_16 (by decide) (fun c => ?_) (fun c => ?_)
    · replace hF := hF.1 c
      refine m_aload_n dX12_name_22 rfl ?_
      refine m_iload_n dX12_name_23 rfl ?_
      refine m_iconst dX12_name_24 ki_1 ?_
      obtain ⟨fs19, e, hF⟩ := hF
      refine m_virtual (as := [.int x_2, .int 1]) (rest := []) cv_X12_137_11 e dX12_name_25 rfl rfl (Nat.le_of_ble_eq_true rfl) (Nat.le_of_eq (Nat.zero_add _)) (Nat.le_of_eq (Nat.zero_add _)) (b1 := (0, 0)) (b2 := (0, 0)) (Ev.mono hF ?_)
      intro r8 h9 hF
      obtain ⟨x10, rfl, hF⟩ := hF
      refine m_istore_n (ls2 := [some (.ref r_0), some (.int x_1), some (.int x_2), some (.int x10), none]) dX12_name_28 (by decide) rfl ?_
      refine m_iload_n dX12_name_29 rfl ?_
      refine m_if_ge 35 dX12_name_30 (by decide) (fun c => ?_) (fun c => ?_)
      · replace hF := hF.1 c
        refine m_aload_n dX12_name_35 rfl ?_
        refine m_bipush dX12_name_36 kb_10 ?_
        refine m_iload_n dX12_name_38 rfl ?_
        obtain ⟨fs18, e, hF⟩ := hF
        refine m_virtual (as := [.int 10, .int x_2]) (rest := []) cv_X12_148_11 e dX12_name_39 rfl rfl (Nat.le_of_ble_eq_true rfl) (Nat.le_of_eq (Nat.zero_add _)) (Nat.le_of_eq (Nat.zero_add _)) (b1 := (0, 0)) (b2 := (0, 0)) (Ev.mono hF ?_)
        intro r11 h12 hF
        obtain ⟨x13, rfl, hF⟩ := hF
        refine m_istore (ls2 := [some (.ref r_0), some (.int x_1), some (.int x_2), some (.int x10), some (.int x13)]) dX12_name_42 (by decide) rfl ?_
        refine m_aload_n dX12_name_44 rfl ?_
        refine m_iload_n dX12_name_45 rfl ?_
        obtain ⟨fs17, e, hF⟩ := hF
        refine m_virtual (as := [.int x_1]) (rest := []) cv_X12_131_11 e dX12_name_46 rfl rfl (Nat.le_of_ble_eq_true rfl) (Nat.le_of_eq (Nat.zero_add _)) (Nat.le_of_eq (Nat.zero_add _)) (b1 := (0, 0)) (b2 := (0, 0)) (Ev.mono hF ?_)
        intro r14 h15 hF
        obtain ⟨x16, rfl, hF⟩ := hF
        exact m_ireturn dX12_name_49 trivial hF
      · replace hF := hF.2 c
        refine m_iload_n dX12_name_33 rfl ?_
        exact m_ireturn dX12_name_34 trivial hF
    · replace hF := hF.2 c
      refine m_ldc dX12_name_19 kc_X12_98 ?_
      exact m_ireturn dX12_name_21 trivial hF
theorem en_X12_name {d : Nat} {r_0 : Nat} {x_1 : Int32} {x_2 : Int32} {h : mH} {K : Option Value → mH → Prop} (hk : Wm (d + 1) (0, 0) JX12_name 0 [some (.ref r_0), some (.int x_1), some (.int x_2), none, none] [] h (fun r h' => h'.1 0 = h.1 0 ∧ K r h')) : Ev (d + 1) (0, 0) MX12_name [.ref r_0, .int x_1, .int x_2] h K :=
  m_met pn_X12 nl_X12 (fun _ => Nat.le_of_ble_eq_true rfl) hk
theorem bk_X12_blocks_0 {d : Nat} (r_0 : Nat) (x_1 : Int32) (x_2 : Int32) (x_3 : Int32) {h : mH} {Q : Option Value → mH → Prop} (hF : (∃ r1 : Nat, m_fld h r_0 [11] 5 = some (.ref r1) ∧ (∃ x2 : Int32, m_il h r1 x_1 = some x2 ∧ Wm (d + 1) (0, 0) JX12_blocks 11 [some (.ref r_0), some (.int x_1), some (.int x_2), some (.int x_3), some (.int x2), some (.int 0), none, none, none] [] h Q))) : Wm (d + 1) (0, 0) JX12_blocks 0 [some (.ref r_0), some (.int x_1), some (.int x_2), some (.int x_3), none, none, none, none, none] [] h Q := by
  refine m_aload_n dX12_blocks_0 rfl ?_
  obtain ⟨r1, e, hF⟩ := hF
  refine m_get fg_X12_19 dX12_blocks_1 e ?_
  refine m_iload_n dX12_blocks_4 rfl ?_
  obtain ⟨x2, e, hF⟩ := hF
  refine m_iald dX12_blocks_5 e ?_
  refine m_istore (ls2 := [some (.ref r_0), some (.int x_1), some (.int x_2), some (.int x_3), some (.int x2), none, none, none, none]) dX12_blocks_6 (by decide) rfl ?_
  refine m_iconst dX12_blocks_8 ki_0 ?_
  refine m_istore (ls2 := [some (.ref r_0), some (.int x_1), some (.int x_2), some (.int x_3), some (.int x2), some (.int 0), none, none, none]) dX12_blocks_9 (by decide) rfl ?_
  exact hF
theorem bk_X12_blocks_11 {d : Nat} (r_0 : Nat) (x_1 : Int32) (x_2 : Int32) (x_3 : Int32) (x_4 : Int32) (x_5 : Int32) {h : mH} {Q : Option Value → mH → Prop} (hF : ((x_4 ≤ x_5 → (∃ fs3 : List Value, (h).1 r_0 = .inr (11, fs3) ∧ Ev d (0, 0) MX12_merge [.ref r_0, .int x_4, .int x_2, .int x_3] h (fun r1 h2 => r1 = none ∧ Wm (d + 1) (0, 0) JX12_blocks 44 [some (.ref r_0), some (.int x_1), none, none, some (.int x_4), some (.int 1), none, none, none] [] h2 Q))) ∧ (¬ (x_4 ≤ x_5) → (∃ r4 : Nat, m_fld h r_0 [11] 13 = some (.ref r4) ∧ (∃ h5 : mH, m_is h r4 x_5 x_5 = some h5 ∧ Wm (d + 1) (0, 0) JX12_blocks 11 [some (.ref r_0), some (.int x_1), some (.int x_2), some (.int x_3), some (.int x_4), some (.int (x_5 + 1)), none, none, none] [] h5 Q))))) : Wm (d + 1) (0, 0) JX12_blocks 11 [some (.ref r_0), some (.int x_1), some (.int x_2), some (.int x_3), some (.int x_4), some (.int x_5), none, none, none] [] h Q := by
  refine m_iload dX12_blocks_11 rfl ?_
  refine m_iload dX12_blocks_13 rfl ?_
  refine m_icmp_ge 33 dX12_blocks_15 (by decide) (fun c => ?_) (fun c => ?_)
  · replace hF := hF.1 c
    refine m_aload_n dX12_blocks_33 rfl ?_
    refine m_iload dX12_blocks_34 rfl ?_
    refine m_iload_n dX12_blocks_36 rfl ?_
    refine m_iload_n dX12_blocks_37 rfl ?_
    obtain ⟨fs3, e, hF⟩ := hF
    refine m_virtual (as := [.int x_4, .int x_2, .int x_3]) (rest := []) cv_X12_151_11 e dX12_blocks_38 rfl rfl (Nat.le_of_ble_eq_true rfl) (Nat.le_of_eq (Nat.zero_add _)) (Nat.le_of_eq (Nat.zero_add _)) (b1 := (0, 0)) (b2 := (0, 0)) (Ev.mono hF ?_)
    intro r1 h2 hF
    obtain ⟨rfl, hF⟩ := hF
    refine m_iconst dX12_blocks_41 ki_1 ?_
    refine m_istore (ls2 := [some (.ref r_0), some (.int x_1), some (.int x_2), some (.int x_3), some (.int x_4), some (.int 1), none, none, none]) dX12_blocks_42 (by decide) rfl ?_
    refine m_wk [2, 3] rfl ?_
    exact hF
  · replace hF := hF.2 c
    refine m_aload_n dX12_blocks_18 rfl ?_
    obtain ⟨r4, e, hF⟩ := hF
    refine m_get fg_X12_44 dX12_blocks_19 e ?_
    refine m_iload dX12_blocks_22 rfl ?_
    refine m_iload dX12_blocks_24 rfl ?_
    obtain ⟨h5, e, hF⟩ := hF
    refine m_iast dX12_blocks_26 e ?_
    refine m_iinc (v := x_5 + 1) (ls2 := [some (.ref r_0), some (.int x_1), some (.int x_2), some (.int x_3), some (.int x_4), some (.int (x_5 + 1)), none, none, none]) dX12_blocks_27 (by decide) rfl (congrArg (_ + ·) ki_1) rfl ?_
    refine m_goto 11 dX12_blocks_30 (by decide) ?_
    exact hF
theorem bk_X12_blocks_44 {d : Nat} (r_0 : Nat) (x_1 : Int32) (x_4 : Int32) (x_5 : Int32) {h : mH} {Q : Option Value → mH → Prop} (hF : ((x_5 = 0 → Wm (d + 1) (0, 0) JX12_blocks 188 [some (.ref r_0), none, none, none, some (.int x_4), none, some (.int 0), some (.int 0), none] [] h Q) ∧ (¬ (x_5 = 0) → Wm (d + 1) (0, 0) JX12_blocks 55 [some (.ref r_0), some (.int x_1), none, none, some (.int x_4), some (.int 0), some (.int 0), none, none] [] h Q))) : Wm (d + 1) (0, 0) JX12_blocks 44 [some (.ref r_0), some (.int x_1), none, none, some (.int x_4), some (.int x_5), none, none, none] [] h Q := by
  refine m_iload dX12_blocks_44 rfl ?_
  refine m_if_eq 182 dX12_blocks_46 (by decide) (fun c => ?_) (fun c => ?_)
  · replace hF := hF.1 c
    refine m_iconst dX12_blocks_182 ki_0 ?_
    refine m_istore (ls2 := [some (.ref r_0), some (.int x_1), none, none, some (.int x_4), some (.int x_5), some (.int 0), none, none]) dX12_blocks_183 (by decide) rfl ?_
    refine m_iconst dX12_blocks_185 ki_0 ?_
    refine m_istore (ls2 := [some (.ref r_0), some (.int x_1), none, none, some (.int x_4), some (.int x_5), some (.int 0), some (.int 0), none]) dX12_blocks_186 (by decide) rfl ?_
    refine m_wk [1, 5] rfl ?_
    exact hF
  · replace hF := hF.2 c
    refine m_iconst dX12_blocks_49 ki_0 ?_
    refine m_istore (ls2 := [some (.ref r_0), some (.int x_1), none, none, some (.int x_4), some (.int 0), none, none, none]) dX12_blocks_50 (by decide) rfl ?_
    refine m_iconst dX12_blocks_52 ki_0 ?_
    refine m_istore (ls2 := [some (.ref r_0), some (.int x_1), none, none, some (.int x_4), some (.int 0), some (.int 0), none, none]) dX12_blocks_53 (by decide) rfl ?_
    exact hF
theorem bk_X12_blocks_188 {d : Nat} (r_0 : Nat) (x_4 : Int32) (x_6 : Int32) (x_7 : Int32) {h : mH} {Q : Option Value → mH → Prop} (hF : ((x_4 ≤ x_7 → Wm (d + 1) (0, 0) JX12_blocks 228 [some (.ref r_0), none, none, none, some (.int x_4), none, some (.int x_6), some (.int 0), none] [] h Q) ∧ (¬ (x_4 ≤ x_7) → (∃ r1 : Nat, m_fld h r_0 [11] 13 = some (.ref r1) ∧ (∃ x2 : Int32, m_il h r1 x_7 = some x2 ∧ ((¬ x2 = x_7 → Wm (d + 1) (0, 0) JX12_blocks 188 [some (.ref r_0), none, none, none, some (.int x_4), none, some (.int x_6), some (.int (x_7 + 1)), none] [] h Q) ∧ (x2 = x_7 → (∃ r3 : Nat, m_fld h r_0 [11] 11 = some (.ref r3) ∧ (∃ h4 : mH, m_is h r3 x_7 x_6 = some h4 ∧ Wm (d + 1) (0, 0) JX12_blocks 188 [some (.ref r_0), none, none, none, some (.int x_4), none, some (.int (x_6 + 1)), some (.int (x_7 + 1)), none] [] h4 Q))))))))) : Wm (d + 1) (0, 0) JX12_blocks 188 [some (.ref r_0), none, none, none, some (.int x_4), none, some (.int x_6), some (.int x_7), none] [] h Q := by
  refine m_iload dX12_blocks_188 rfl ?_
  refine m_iload dX12_blocks_190 rfl ?_
  refine m_icmp_ge 225 dX12_blocks_192 (by decide) (fun c => ?_) (fun c => ?_)
  · replace hF := hF.1 c
    refine m_iconst dX12_blocks_225 ki_0 ?_
    refine m_istore (ls2 := [some (.ref r_0), none, none, none, some (.int x_4), none, some (.int x_6), some (.int 0), none]) dX12_blocks_226 (by decide) rfl ?_
    exact hF
  · replace hF := hF.2 c
    refine m_aload_n dX12_blocks_195 rfl ?_
    obtain ⟨r1, e, hF⟩ := hF
    refine m_get fg_X12_44 dX12_blocks_196 e ?_
    refine m_iload dX12_blocks_199 rfl ?_
    obtain ⟨x2, e, hF⟩ := hF
    refine m_iald dX12_blocks_201 e ?_
    refine m_iload dX12_blocks_202 rfl ?_
    refine m_icmp_ne 219 dX12_blocks_204 (by decide) (fun c => ?_) (fun c => ?_)
    · replace hF := hF.1 c
      refine m_iinc (v := x_7 + 1) (ls2 := [some (.ref r_0), none, none, none, some (.int x_4), none, some (.int x_6), some (.int (x_7 + 1)), none]) dX12_blocks_219 (by decide) rfl (congrArg (_ + ·) ki_1) rfl ?_
      refine m_goto 188 dX12_blocks_222 (by decide) ?_
      exact hF
    · replace hF := hF.2 c
      refine m_aload_n dX12_blocks_207 rfl ?_
      obtain ⟨r3, e, hF⟩ := hF
      refine m_get fg_X12_38 dX12_blocks_208 e ?_
      refine m_iload dX12_blocks_211 rfl ?_
      refine m_iload dX12_blocks_213 rfl ?_
      obtain ⟨h4, e, hF⟩ := hF
      refine m_iast dX12_blocks_215 e ?_
      refine m_iinc (v := x_6 + 1) (ls2 := [some (.ref r_0), none, none, none, some (.int x_4), none, some (.int (x_6 + 1)), some (.int x_7), none]) dX12_blocks_216 (by decide) rfl (congrArg (_ + ·) ki_1) rfl ?_
      refine m_iinc (v := x_7 + 1) (ls2 := [some (.ref r_0), none, none, none, some (.int x_4), none, some (.int (x_6 + 1)), some (.int (x_7 + 1)), none]) dX12_blocks_219 (by decide) rfl (congrArg (_ + ·) ki_1) rfl ?_
      refine m_goto 188 dX12_blocks_222 (by decide) ?_
      exact hF
theorem bk_X12_blocks_55 {d : Nat} (r_0 : Nat) (x_1 : Int32) (x_4 : Int32) (x_5 : Int32) (x_6 : Int32) {h : mH} {Q : Option Value → mH → Prop} (hF : (∃ r1 : Nat, m_fld h r_0 [11] 6 = some (.ref r1) ∧ (∃ x2 : Int32, m_il h r1 x_1 = some x2 ∧ ((x2 ≤ x_6 → Wm (d + 1) (0, 0) JX12_blocks 44 [some (.ref r_0), some (.int x_1), none, none, some (.int x_4), some (.int x_5), none, none, none] [] h Q) ∧ (¬ (x2 ≤ x_6) → Wm (d + 1) (0, 0) JX12_blocks 69 [some (.ref r_0), some (.int x_1), none, none, some (.int x_4), some (.int x_5), some (.int x_6), some (.int 0), none] [] h Q))))) : Wm (d + 1) (0, 0) JX12_blocks 55 [some (.ref r_0), some (.int x_1), none, none, some (.int x_4), some (.int x_5), some (.int x_6), none, none] [] h Q := by
  refine m_iload dX12_blocks_55 rfl ?_
  refine m_aload_n dX12_blocks_57 rfl ?_
  obtain ⟨r1, e, hF⟩ := hF
  refine m_get fg_X12_22 dX12_blocks_58 e ?_
  refine m_iload_n dX12_blocks_61 rfl ?_
  obtain ⟨x2, e, hF⟩ := hF
  refine m_iald dX12_blocks_62 e ?_
  refine m_icmp_ge 179 dX12_blocks_63 (by decide) (fun c => ?_) (fun c => ?_)
  · replace hF := hF.1 c
    refine m_goto 44 dX12_blocks_179 (by decide) ?_
    refine m_wk [6] rfl ?_
    exact hF
  · replace hF := hF.2 c
    refine m_iconst dX12_blocks_66 ki_0 ?_
    refine m_istore (ls2 := [some (.ref r_0), some (.int x_1), none, none, some (.int x_4), some (.int x_5), some (.int x_6), some (.int 0), none]) dX12_blocks_67 (by decide) rfl ?_
    exact hF
theorem bk_X12_blocks_228 {d : Nat} (r_0 : Nat) (x_4 : Int32) (x_6 : Int32) (x_7 : Int32) {h : mH} {Q : Option Value → mH → Prop} (hF : ((x_4 ≤ x_7 → Q (some (.int x_6)) h) ∧ (¬ (x_4 ≤ x_7) → (∃ r1 : Nat, m_fld h r_0 [11] 13 = some (.ref r1) ∧ (∃ r2 : Nat, m_fld h r_0 [11] 11 = some (.ref r2) ∧ (∃ r3 : Nat, m_fld h r_0 [11] 13 = some (.ref r3) ∧ (∃ x4 : Int32, m_il h r3 x_7 = some x4 ∧ (∃ x5 : Int32, m_il h r2 x4 = some x5 ∧ (∃ h6 : mH, m_is h r1 x_7 x5 = some h6 ∧ Wm (d + 1) (0, 0) JX12_blocks 228 [some (.ref r_0), none, none, none, some (.int x_4), none, some (.int x_6), some (.int (x_7 + 1)), none] [] h6 Q))))))))) : Wm (d + 1) (0, 0) JX12_blocks 228 [some (.ref r_0), none, none, none, some (.int x_4), none, some (.int x_6), some (.int x_7), none] [] h Q := by
  refine m_iload dX12_blocks_228 rfl ?_
  refine m_iload dX12_blocks_230 rfl ?_
  refine m_icmp_ge 260 dX12_blocks_232 (by decide) (fun c => ?_) (fun c => ?_)
  · replace hF := hF.1 c
    refine m_iload dX12_blocks_260 rfl ?_
    exact m_ireturn dX12_blocks_262 trivial hF
  · replace hF := hF.2 c
    refine m_aload_n dX12_blocks_235 rfl ?_
    obtain ⟨r1, e, hF⟩ := hF
    refine m_get fg_X12_44 dX12_blocks_236 e ?_
    refine m_iload dX12_blocks_239 rfl ?_
    refine m_aload_n dX12_blocks_241 rfl ?_
    obtain ⟨r2, e, hF⟩ := hF
    refine m_get fg_X12_38 dX12_blocks_242 e ?_
    refine m_aload_n dX12_blocks_245 rfl ?_
    obtain ⟨r3, e, hF⟩ := hF
    refine m_get fg_X12_44 dX12_blocks_246 e ?_
    refine m_iload dX12_blocks_249 rfl ?_
    obtain ⟨x4, e, hF⟩ := hF
    refine m_iald dX12_blocks_251 e ?_
    obtain ⟨x5, e, hF⟩ := hF
    refine m_iald dX12_blocks_252 e ?_
    obtain ⟨h6, e, hF⟩ := hF
    refine m_iast dX12_blocks_253 e ?_
    refine m_iinc (v := x_7 + 1) (ls2 := [some (.ref r_0), none, none, none, some (.int x_4), none, some (.int x_6), some (.int (x_7 + 1)), none]) dX12_blocks_254 (by decide) rfl (congrArg (_ + ·) ki_1) rfl ?_
    refine m_goto 228 dX12_blocks_257 (by decide) ?_
    exact hF
theorem bk_X12_blocks_69 {d : Nat} (r_0 : Nat) (x_1 : Int32) (x_4 : Int32) (x_5 : Int32) (x_6 : Int32) (x_7 : Int32) {h : mH} {Q : Option Value → mH → Prop} (hF : ((x_4 ≤ x_7 → Wm (d + 1) (0, 0) JX12_blocks 55 [some (.ref r_0), some (.int x_1), none, none, some (.int x_4), some (.int x_5), some (.int (x_6 + 1)), none, none] [] h Q) ∧ (¬ (x_4 ≤ x_7) → Wm (d + 1) (0, 0) JX12_blocks 79 [some (.ref r_0), some (.int x_1), none, none, some (.int x_4), some (.int x_5), some (.int x_6), some (.int x_7), some (.int 0)] [] h Q))) : Wm (d + 1) (0, 0) JX12_blocks 69 [some (.ref r_0), some (.int x_1), none, none, some (.int x_4), some (.int x_5), some (.int x_6), some (.int x_7), none] [] h Q := by
  refine m_iload dX12_blocks_69 rfl ?_
  refine m_iload dX12_blocks_71 rfl ?_
  refine m_icmp_ge 173 dX12_blocks_73 (by decide) (fun c => ?_) (fun c => ?_)
  · replace hF := hF.1 c
    refine m_iinc (v := x_6 + 1) (ls2 := [some (.ref r_0), some (.int x_1), none, none, some (.int x_4), some (.int x_5), some (.int (x_6 + 1)), some (.int x_7), none]) dX12_blocks_173 (by decide) rfl (congrArg (_ + ·) ki_1) rfl ?_
    refine m_goto 55 dX12_blocks_176 (by decide) ?_
    refine m_wk [7] rfl ?_
    exact hF
  · replace hF := hF.2 c
    refine m_iconst dX12_blocks_76 ki_0 ?_
    refine m_istore (ls2 := [some (.ref r_0), some (.int x_1), none, none, some (.int x_4), some (.int x_5), some (.int x_6), some (.int x_7), some (.int 0)]) dX12_blocks_77 (by decide) rfl ?_
    exact hF
theorem bk_X12_blocks_79 {d : Nat} (r_0 : Nat) (x_1 : Int32) (x_4 : Int32) (x_5 : Int32) (x_6 : Int32) (x_7 : Int32) (x_8 : Int32) {h : mH} {Q : Option Value → mH → Prop} (hF : ((x_7 ≤ x_8 → Wm (d + 1) (0, 0) JX12_blocks 69 [some (.ref r_0), some (.int x_1), none, none, some (.int x_4), some (.int x_5), some (.int x_6), some (.int (x_7 + 1)), none] [] h Q) ∧ (¬ (x_7 ≤ x_8) → (∃ r1 : Nat, m_fld h r_0 [11] 13 = some (.ref r1) ∧ (∃ x2 : Int32, m_il h r1 x_7 = some x2 ∧ (∃ r3 : Nat, m_fld h r_0 [11] 13 = some (.ref r3) ∧ (∃ x4 : Int32, m_il h r3 x_8 = some x4 ∧ ((¬ x2 = x4 → Wm (d + 1) (0, 0) JX12_blocks 79 [some (.ref r_0), some (.int x_1), none, none, some (.int x_4), some (.int x_5), some (.int x_6), some (.int x_7), some (.int (x_8 + 1))] [] h Q) ∧ (x2 = x4 → (∃ r5 : Nat, m_fld h r_0 [11] 13 = some (.ref r5) ∧ (∃ fs27 : List Value, (h).1 r_0 = .inr (11, fs27) ∧ Ev d (0, 0) MX12_at [.ref r_0, .int x_1, .int x_6, .int x_7] h (fun r6 h7 => ∃ x8 : Int32, r6 = some (.int x8) ∧ (∃ x9 : Int32, m_il h7 r5 x8 = some x9 ∧ (∃ r10 : Nat, m_fld h7 r_0 [11] 13 = some (.ref r10) ∧ (∃ fs26 : List Value, (h7).1 r_0 = .inr (11, fs26) ∧ Ev d (0, 0) MX12_at [.ref r_0, .int x_1, .int x_6, .int x_8] h7 (fun r11 h12 => ∃ x13 : Int32, r11 = some (.int x13) ∧ (∃ x14 : Int32, m_il h12 r10 x13 = some x14 ∧ ((x9 = x14 → Wm (d + 1) (0, 0) JX12_blocks 79 [some (.ref r_0), some (.int x_1), none, none, some (.int x_4), some (.int x_5), some (.int x_6), some (.int x_7), some (.int (x_8 + 1))] [] h12 Q) ∧ (¬ (x9 = x14) → (∃ fs25 : List Value, (h12).1 r_0 = .inr (11, fs25) ∧ Ev d (0, 0) MX12_at [.ref r_0, .int x_1, .int x_6, .int x_7] h12 (fun r15 h16 => ∃ x17 : Int32, r15 = some (.int x17) ∧ (∃ fs24 : List Value, (h16).1 r_0 = .inr (11, fs24) ∧ Ev d (0, 0) MX12_at [.ref r_0, .int x_1, .int x_6, .int x_8] h16 (fun r18 h19 => ∃ x20 : Int32, r18 = some (.int x20) ∧ (∃ fs23 : List Value, (h19).1 r_0 = .inr (11, fs23) ∧ Ev d (0, 0) MX12_merge [.ref r_0, .int x_4, .int x17, .int x20] h19 (fun r21 h22 => r21 = none ∧ Wm (d + 1) (0, 0) JX12_blocks 79 [some (.ref r_0), some (.int x_1), none, none, some (.int x_4), some (.int 1), some (.int x_6), some (.int x_7), some (.int (x_8 + 1))] [] h22 Q))))))))))))))))))))))))) : Wm (d + 1) (0, 0) JX12_blocks 79 [some (.ref r_0), some (.int x_1), none, none, some (.int x_4), some (.int x_5), some (.int x_6), some (.int x_7), some (.int x_8)] [] h Q := by
  refine m_iload dX12_blocks_79 rfl ?_
  refine m_iload dX12_blocks_81 rfl ?_
  refine m_icmp_ge 167 dX12_blocks_83 (by decide) (fun c => ?_) (fun c => ?_)
  · replace hF := hF.1 c
    refine m_iinc (v := x_7 + 1) (ls2 := [some (.ref r_0), some (.int x_1), none, none, some (.int x_4), some (.int x_5), some (.int x_6), some (.int (x_7 + 1)), some (.int x_8)]) dX12_blocks_167 (by decide) rfl (congrArg (_ + ·) ki_1) rfl ?_
    refine m_goto 69 dX12_blocks_170 (by decide) ?_
    refine m_wk [8] rfl ?_
    exact hF
  · replace hF := hF.2 c
    refine m_aload_n dX12_blocks_86 rfl ?_
    obtain ⟨r1, e, hF⟩ := hF
    refine m_get fg_X12_44 dX12_blocks_87 e ?_
    refine m_iload dX12_blocks_90 rfl ?_
    obtain ⟨x2, e, hF⟩ := hF
    refine m_iald dX12_blocks_92 e ?_
    refine m_aload_n dX12_blocks_93 rfl ?_
    obtain ⟨r3, e, hF⟩ := hF
    refine m_get fg_X12_44 dX12_blocks_94 e ?_
    refine m_iload dX12_blocks_97 rfl ?_
    obtain ⟨x4, e, hF⟩ := hF
    refine m_iald dX12_blocks_99 e ?_
    refine m_icmp_ne 161 dX12_blocks_100 (by decide) (fun c => ?_) (fun c => ?_)
    · replace hF := hF.1 c
      refine m_iinc (v := x_8 + 1) (ls2 := [some (.ref r_0), some (.int x_1), none, none, some (.int x_4), some (.int x_5), some (.int x_6), some (.int x_7), some (.int (x_8 + 1))]) dX12_blocks_161 (by decide) rfl (congrArg (_ + ·) ki_1) rfl ?_
      refine m_goto 79 dX12_blocks_164 (by decide) ?_
      exact hF
    · replace hF := hF.2 c
      refine m_aload_n dX12_blocks_103 rfl ?_
      obtain ⟨r5, e, hF⟩ := hF
      refine m_get fg_X12_44 dX12_blocks_104 e ?_
      refine m_aload_n dX12_blocks_107 rfl ?_
      refine m_iload_n dX12_blocks_108 rfl ?_
      refine m_iload dX12_blocks_109 rfl ?_
      refine m_iload dX12_blocks_111 rfl ?_
      obtain ⟨fs27, e, hF⟩ := hF
      refine m_virtual (as := [.int x_1, .int x_6, .int x_7]) (rest := [.ref r5]) cv_X12_105_11 e dX12_blocks_113 rfl rfl (Nat.le_of_ble_eq_true rfl) (Nat.le_of_eq (Nat.zero_add _)) (Nat.le_of_eq (Nat.zero_add _)) (b1 := (0, 0)) (b2 := (0, 0)) (Ev.mono hF ?_)
      intro r6 h7 hF
      obtain ⟨x8, rfl, hF⟩ := hF
      obtain ⟨x9, e, hF⟩ := hF
      refine m_iald dX12_blocks_116 e ?_
      refine m_aload_n dX12_blocks_117 rfl ?_
      obtain ⟨r10, e, hF⟩ := hF
      refine m_get fg_X12_44 dX12_blocks_118 e ?_
      refine m_aload_n dX12_blocks_121 rfl ?_
      refine m_iload_n dX12_blocks_122 rfl ?_
      refine m_iload dX12_blocks_123 rfl ?_
      refine m_iload dX12_blocks_125 rfl ?_
      obtain ⟨fs26, e, hF⟩ := hF
      refine m_virtual (as := [.int x_1, .int x_6, .int x_8]) (rest := [.ref r10, .int x9]) cv_X12_105_11 e dX12_blocks_127 rfl rfl (Nat.le_of_ble_eq_true rfl) (Nat.le_of_eq (Nat.zero_add _)) (Nat.le_of_eq (Nat.zero_add _)) (b1 := (0, 0)) (b2 := (0, 0)) (Ev.mono hF ?_)
      intro r11 h12 hF
      obtain ⟨x13, rfl, hF⟩ := hF
      obtain ⟨x14, e, hF⟩ := hF
      refine m_iald dX12_blocks_130 e ?_
      refine m_icmp_eq 161 dX12_blocks_131 (by decide) (fun c => ?_) (fun c => ?_)
      · replace hF := hF.1 c
        refine m_iinc (v := x_8 + 1) (ls2 := [some (.ref r_0), some (.int x_1), none, none, some (.int x_4), some (.int x_5), some (.int x_6), some (.int x_7), some (.int (x_8 + 1))]) dX12_blocks_161 (by decide) rfl (congrArg (_ + ·) ki_1) rfl ?_
        refine m_goto 79 dX12_blocks_164 (by decide) ?_
        exact hF
      · replace hF := hF.2 c
        refine m_aload_n dX12_blocks_134 rfl ?_
        refine m_iload dX12_blocks_135 rfl ?_
        refine m_aload_n dX12_blocks_137 rfl ?_
        refine m_iload_n dX12_blocks_138 rfl ?_
        refine m_iload dX12_blocks_139 rfl ?_
        refine m_iload dX12_blocks_141 rfl ?_
        obtain ⟨fs25, e, hF⟩ := hF
        refine m_virtual (as := [.int x_1, .int x_6, .int x_7]) (rest := [.int x_4, .ref r_0]) cv_X12_105_11 e dX12_blocks_143 rfl rfl (Nat.le_of_ble_eq_true rfl) (Nat.le_of_eq (Nat.zero_add _)) (Nat.le_of_eq (Nat.zero_add _)) (b1 := (0, 0)) (b2 := (0, 0)) (Ev.mono hF ?_)
        intro r15 h16 hF
        obtain ⟨x17, rfl, hF⟩ := hF
        refine m_aload_n dX12_blocks_146 rfl ?_
        refine m_iload_n dX12_blocks_147 rfl ?_
        refine m_iload dX12_blocks_148 rfl ?_
        refine m_iload dX12_blocks_150 rfl ?_
        obtain ⟨fs24, e, hF⟩ := hF
        refine m_virtual (as := [.int x_1, .int x_6, .int x_8]) (rest := [.int x17, .int x_4, .ref r_0]) cv_X12_105_11 e dX12_blocks_152 rfl rfl (Nat.le_of_ble_eq_true rfl) (Nat.le_of_eq (Nat.zero_add _)) (Nat.le_of_eq (Nat.zero_add _)) (b1 := (0, 0)) (b2 := (0, 0)) (Ev.mono hF ?_)
        intro r18 h19 hF
        obtain ⟨x20, rfl, hF⟩ := hF
        obtain ⟨fs23, e, hF⟩ := hF
        refine m_virtual (as := [.int x_4, .int x17, .int x20]) (rest := []) cv_X12_151_11 e dX12_blocks_155 rfl rfl (Nat.le_of_ble_eq_true rfl) (Nat.le_of_eq (Nat.zero_add _)) (Nat.le_of_eq (Nat.zero_add _)) (b1 := (0, 0)) (b2 := (0, 0)) (Ev.mono hF ?_)
        intro r21 h22 hF
        obtain ⟨rfl, hF⟩ := hF
        refine m_iconst dX12_blocks_158 ki_1 ?_
        refine m_istore (ls2 := [some (.ref r_0), some (.int x_1), none, none, some (.int x_4), some (.int 1), some (.int x_6), some (.int x_7), some (.int x_8)]) dX12_blocks_159 (by decide) rfl ?_
        refine m_iinc (v := x_8 + 1) (ls2 := [some (.ref r_0), some (.int x_1), none, none, some (.int x_4), some (.int 1), some (.int x_6), some (.int x_7), some (.int (x_8 + 1))]) dX12_blocks_161 (by decide) rfl (congrArg (_ + ·) ki_1) rfl ?_
        refine m_goto 79 dX12_blocks_164 (by decide) ?_
        exact hF
theorem en_X12_blocks {d : Nat} {r_0 : Nat} {x_1 : Int32} {x_2 : Int32} {x_3 : Int32} {h : mH} {K : Option Value → mH → Prop} (hk : Wm (d + 1) (0, 0) JX12_blocks 0 [some (.ref r_0), some (.int x_1), some (.int x_2), some (.int x_3), none, none, none, none, none] [] h (fun r h' => h'.1 0 = h.1 0 ∧ K r h')) : Ev (d + 1) (0, 0) MX12_blocks [.ref r_0, .int x_1, .int x_2, .int x_3] h K :=
  m_met pn_X12 nl_X12 (fun _ => Nat.le_of_ble_eq_true rfl) hk
theorem bk_X12_merge_0 {d : Nat} (r_0 : Nat) (x_1 : Int32) (x_2 : Int32) (x_3 : Int32) {h : mH} {Q : Option Value → mH → Prop} (hF : (∃ r1 : Nat, m_fld h r_0 [11] 13 = some (.ref r1) ∧ (∃ x2 : Int32, m_il h r1 x_2 = some x2 ∧ (∃ r3 : Nat, m_fld h r_0 [11] 13 = some (.ref r3) ∧ (∃ x4 : Int32, m_il h r3 x_3 = some x4 ∧ ((x4 ≤ x2 → (∃ r5 : Nat, m_fld h r_0 [11] 13 = some (.ref r5) ∧ (∃ x6 : Int32, m_il h r5 x_3 = some x6 ∧ (∃ r7 : Nat, m_fld h r_0 [11] 13 = some (.ref r7) ∧ (∃ x8 : Int32, m_il h r7 x_2 = some x8 ∧ (∃ r9 : Nat, m_fld h r_0 [11] 13 = some (.ref r9) ∧ (∃ x10 : Int32, m_il h r9 x_3 = some x10 ∧ ((x10 ≤ x8 → (∃ r11 : Nat, m_fld h r_0 [11] 13 = some (.ref r11) ∧ (∃ x12 : Int32, m_il h r11 x_2 = some x12 ∧ Wm d (0, 0) JX12_merge 67 [some (.ref r_0), some (.int x_1), none, none, some (.int x6), some (.int x12), some (.int 0)] [] h Q))) ∧ (¬ (x10 ≤ x8) → (∃ r13 : Nat, m_fld h r_0 [11] 13 = some (.ref r13) ∧ (∃ x14 : Int32, m_il h r13 x_3 = some x14 ∧ Wm d (0, 0) JX12_merge 67 [some (.ref r_0), some (.int x_1), none, none, some (.int x6), some (.int x14), some (.int 0)] [] h Q))))))))))) ∧ (¬ (x4 ≤ x2) → (∃ r15 : Nat, m_fld h r_0 [11] 13 = some (.ref r15) ∧ (∃ x16 : Int32, m_il h r15 x_2 = some x16 ∧ (∃ r17 : Nat, m_fld h r_0 [11] 13 = some (.ref r17) ∧ (∃ x18 : Int32, m_il h r17 x_2 = some x18 ∧ (∃ r19 : Nat, m_fld h r_0 [11] 13 = some (.ref r19) ∧ (∃ x20 : Int32, m_il h r19 x_3 = some x20 ∧ ((x20 ≤ x18 → (∃ r21 : Nat, m_fld h r_0 [11] 13 = some (.ref r21) ∧ (∃ x22 : Int32, m_il h r21 x_2 = some x22 ∧ Wm d (0, 0) JX12_merge 67 [some (.ref r_0), some (.int x_1), none, none, some (.int x16), some (.int x22), some (.int 0)] [] h Q))) ∧ (¬ (x20 ≤ x18) → (∃ r23 : Nat, m_fld h r_0 [11] 13 = some (.ref r23) ∧ (∃ x24 : Int32, m_il h r23 x_3 = some x24 ∧ Wm d (0, 0) JX12_merge 67 [some (.ref r_0), some (.int x_1), none, none, some (.int x16), some (.int x24), some (.int 0)] [] h Q))))))))))))))))) : Wm d (0, 0) JX12_merge 0 [some (.ref r_0), some (.int x_1), some (.int x_2), some (.int x_3), none, none, none] [] h Q := by
  refine m_aload_n dX12_merge_0 rfl ?_
  obtain ⟨r1, e, hF⟩ := hF
  refine m_get fg_X12_44 dX12_merge_1 e ?_
  refine m_iload_n dX12_merge_4 rfl ?_
  obtain ⟨x2, e, hF⟩ := hF
  refine m_iald dX12_merge_5 e ?_
  refine m_aload_n dX12_merge_6 rfl ?_
  obtain ⟨r3, e, hF⟩ := hF
  refine m_get fg_X12_44 dX12_merge_7 e ?_
  refine m_iload_n dX12_merge_10 rfl ?_
  obtain ⟨x4, e, hF⟩ := hF
  refine m_iald dX12_merge_11 e ?_
  refine m_icmp_ge 24 dX12_merge_12 (by decide) (fun c => ?_) (fun c => ?_)
  · replace hF := hF.1 c
    refine m_aload_n dX12_merge_24 rfl ?_
    obtain ⟨r5, e, hF⟩ := hF
    refine m_get fg_X12_44 dX12_merge_25 e ?_
    refine m_iload_n dX12_merge_28 rfl ?_
    obtain ⟨x6, e, hF⟩ := hF
    refine m_iald dX12_merge_29 e ?_
    refine m_istore (ls2 := [some (.ref r_0), some (.int x_1), some (.int x_2), some (.int x_3), some (.int x6), none, none]) dX12_merge_30 (by decide) rfl ?_
    refine m_aload_n dX12_merge_32 rfl ?_
    obtain ⟨r7, e, hF⟩ := hF
    refine m_get fg_X12_44 dX12_merge_33 e ?_
    refine m_iload_n dX12_merge_36 rfl ?_
    obtain ⟨x8, e, hF⟩ := hF
    refine m_iald dX12_merge_37 e ?_
    refine m_aload_n dX12_merge_38 rfl ?_
    obtain ⟨r9, e, hF⟩ := hF
    refine m_get fg_X12_44 dX12_merge_39 e ?_
    refine m_iload_n dX12_merge_42 rfl ?_
    obtain ⟨x10, e, hF⟩ := hF
    refine m_iald dX12_merge_43 e ?_
    refine m_icmp_ge 56 dX12_merge_44 (by decide) (fun c => ?_) (fun c => ?_)
    · replace hF := hF.1 c
      refine m_aload_n dX12_merge_56 rfl ?_
      obtain ⟨r11, e, hF⟩ := hF
      refine m_get fg_X12_44 dX12_merge_57 e ?_
      refine m_iload_n dX12_merge_60 rfl ?_
      obtain ⟨x12, e, hF⟩ := hF
      refine m_iald dX12_merge_61 e ?_
      refine m_istore (ls2 := [some (.ref r_0), some (.int x_1), some (.int x_2), some (.int x_3), some (.int x6), some (.int x12), none]) dX12_merge_62 (by decide) rfl ?_
      refine m_iconst dX12_merge_64 ki_0 ?_
      refine m_istore (ls2 := [some (.ref r_0), some (.int x_1), some (.int x_2), some (.int x_3), some (.int x6), some (.int x12), some (.int 0)]) dX12_merge_65 (by decide) rfl ?_
      refine m_wk [2, 3] rfl ?_
      exact hF
    · replace hF := hF.2 c
      refine m_aload_n dX12_merge_47 rfl ?_
      obtain ⟨r13, e, hF⟩ := hF
      refine m_get fg_X12_44 dX12_merge_48 e ?_
      refine m_iload_n dX12_merge_51 rfl ?_
      obtain ⟨x14, e, hF⟩ := hF
      refine m_iald dX12_merge_52 e ?_
      refine m_goto 62 dX12_merge_53 (by decide) ?_
      refine m_istore (ls2 := [some (.ref r_0), some (.int x_1), some (.int x_2), some (.int x_3), some (.int x6), some (.int x14), none]) dX12_merge_62 (by decide) rfl ?_
      refine m_iconst dX12_merge_64 ki_0 ?_
      refine m_istore (ls2 := [some (.ref r_0), some (.int x_1), some (.int x_2), some (.int x_3), some (.int x6), some (.int x14), some (.int 0)]) dX12_merge_65 (by decide) rfl ?_
      refine m_wk [2, 3] rfl ?_
      exact hF
  · replace hF := hF.2 c
    refine m_aload_n dX12_merge_15 rfl ?_
    obtain ⟨r15, e, hF⟩ := hF
    refine m_get fg_X12_44 dX12_merge_16 e ?_
    refine m_iload_n dX12_merge_19 rfl ?_
    obtain ⟨x16, e, hF⟩ := hF
    refine m_iald dX12_merge_20 e ?_
    refine m_goto 30 dX12_merge_21 (by decide) ?_
    refine m_istore (ls2 := [some (.ref r_0), some (.int x_1), some (.int x_2), some (.int x_3), some (.int x16), none, none]) dX12_merge_30 (by decide) rfl ?_
    refine m_aload_n dX12_merge_32 rfl ?_
    obtain ⟨r17, e, hF⟩ := hF
    refine m_get fg_X12_44 dX12_merge_33 e ?_
    refine m_iload_n dX12_merge_36 rfl ?_
    obtain ⟨x18, e, hF⟩ := hF
    refine m_iald dX12_merge_37 e ?_
    refine m_aload_n dX12_merge_38 rfl ?_
    obtain ⟨r19, e, hF⟩ := hF
    refine m_get fg_X12_44 dX12_merge_39 e ?_
    refine m_iload_n dX12_merge_42 rfl ?_
    obtain ⟨x20, e, hF⟩ := hF
    refine m_iald dX12_merge_43 e ?_
    refine m_icmp_ge 56 dX12_merge_44 (by decide) (fun c => ?_) (fun c => ?_)
    · replace hF := hF.1 c
      refine m_aload_n dX12_merge_56 rfl ?_
      obtain ⟨r21, e, hF⟩ := hF
      refine m_get fg_X12_44 dX12_merge_57 e ?_
      refine m_iload_n dX12_merge_60 rfl ?_
      obtain ⟨x22, e, hF⟩ := hF
      refine m_iald dX12_merge_61 e ?_
      refine m_istore (ls2 := [some (.ref r_0), some (.int x_1), some (.int x_2), some (.int x_3), some (.int x16), some (.int x22), none]) dX12_merge_62 (by decide) rfl ?_
      refine m_iconst dX12_merge_64 ki_0 ?_
      refine m_istore (ls2 := [some (.ref r_0), some (.int x_1), some (.int x_2), some (.int x_3), some (.int x16), some (.int x22), some (.int 0)]) dX12_merge_65 (by decide) rfl ?_
      refine m_wk [2, 3] rfl ?_
      exact hF
    · replace hF := hF.2 c
      refine m_aload_n dX12_merge_47 rfl ?_
      obtain ⟨r23, e, hF⟩ := hF
      refine m_get fg_X12_44 dX12_merge_48 e ?_
      refine m_iload_n dX12_merge_51 rfl ?_
      obtain ⟨x24, e, hF⟩ := hF
      refine m_iald dX12_merge_52 e ?_
      refine m_goto 62 dX12_merge_53 (by decide) ?_
      refine m_istore (ls2 := [some (.ref r_0), some (.int x_1), some (.int x_2), some (.int x_3), some (.int x16), some (.int x24), none]) dX12_merge_62 (by decide) rfl ?_
      refine m_iconst dX12_merge_64 ki_0 ?_
      refine m_istore (ls2 := [some (.ref r_0), some (.int x_1), some (.int x_2), some (.int x_3), some (.int x16), some (.int x24), some (.int 0)]) dX12_merge_65 (by decide) rfl ?_
      refine m_wk [2, 3] rfl ?_
      exact hF
theorem bk_X12_merge_67 {d : Nat} (r_0 : Nat) (x_1 : Int32) (x_4 : Int32) (x_5 : Int32) (x_6 : Int32) {h : mH} {Q : Option Value → mH → Prop} (hF : ((x_1 ≤ x_6 → Q none h) ∧ (¬ (x_1 ≤ x_6) → (∃ r1 : Nat, m_fld h r_0 [11] 13 = some (.ref r1) ∧ (∃ r2 : Nat, m_fld h r_0 [11] 13 = some (.ref r2) ∧ (∃ x3 : Int32, m_il h r2 x_6 = some x3 ∧ ((¬ x3 = x_5 → (∃ r4 : Nat, m_fld h r_0 [11] 13 = some (.ref r4) ∧ (∃ x5 : Int32, m_il h r4 x_6 = some x5 ∧ (∃ h6 : mH, m_is h r1 x_6 x5 = some h6 ∧ Wm d (0, 0) JX12_merge 67 [some (.ref r_0), some (.int x_1), none, none, some (.int x_4), some (.int x_5), some (.int (x_6 + 1))] [] h6 Q)))) ∧ (x3 = x_5 → (∃ h7 : mH, m_is h r1 x_6 x_4 = some h7 ∧ Wm d (0, 0) JX12_merge 67 [some (.ref r_0), some (.int x_1), none, none, some (.int x_4), some (.int x_5), some (.int (x_6 + 1))] [] h7 Q))))))))) : Wm d (0, 0) JX12_merge 67 [some (.ref r_0), some (.int x_1), none, none, some (.int x_4), some (.int x_5), some (.int x_6)] [] h Q := by
  refine m_iload dX12_merge_67 rfl ?_
  refine m_iload_n dX12_merge_69 rfl ?_
  refine m_icmp_ge 110 dX12_merge_70 (by decide) (fun c => ?_) (fun c => ?_)
  · replace hF := hF.1 c
    exact m_return dX12_merge_110 trivial hF
  · replace hF := hF.2 c
    refine m_aload_n dX12_merge_73 rfl ?_
    obtain ⟨r1, e, hF⟩ := hF
    refine m_get fg_X12_44 dX12_merge_74 e ?_
    refine m_iload dX12_merge_77 rfl ?_
    refine m_aload_n dX12_merge_79 rfl ?_
    obtain ⟨r2, e, hF⟩ := hF
    refine m_get fg_X12_44 dX12_merge_80 e ?_
    refine m_iload dX12_merge_83 rfl ?_
    obtain ⟨x3, e, hF⟩ := hF
    refine m_iald dX12_merge_85 e ?_
    refine m_iload dX12_merge_86 rfl ?_
    refine m_icmp_ne 96 dX12_merge_88 (by decide) (fun c => ?_) (fun c => ?_)
    · replace hF := hF.1 c
      refine m_aload_n dX12_merge_96 rfl ?_
      obtain ⟨r4, e, hF⟩ := hF
      refine m_get fg_X12_44 dX12_merge_97 e ?_
      refine m_iload dX12_merge_100 rfl ?_
      obtain ⟨x5, e, hF⟩ := hF
      refine m_iald dX12_merge_102 e ?_
      obtain ⟨h6, e, hF⟩ := hF
      refine m_iast dX12_merge_103 e ?_
      refine m_iinc (v := x_6 + 1) (ls2 := [some (.ref r_0), some (.int x_1), none, none, some (.int x_4), some (.int x_5), some (.int (x_6 + 1))]) dX12_merge_104 (by decide) rfl (congrArg (_ + ·) ki_1) rfl ?_
      refine m_goto 67 dX12_merge_107 (by decide) ?_
      exact hF
    · replace hF := hF.2 c
      refine m_iload dX12_merge_91 rfl ?_
      refine m_goto 103 dX12_merge_93 (by decide) ?_
      obtain ⟨h7, e, hF⟩ := hF
      refine m_iast dX12_merge_103 e ?_
      refine m_iinc (v := x_6 + 1) (ls2 := [some (.ref r_0), some (.int x_1), none, none, some (.int x_4), some (.int x_5), some (.int (x_6 + 1))]) dX12_merge_104 (by decide) rfl (congrArg (_ + ·) ki_1) rfl ?_
      refine m_goto 67 dX12_merge_107 (by decide) ?_
      exact hF
theorem en_X12_merge {d : Nat} {r_0 : Nat} {x_1 : Int32} {x_2 : Int32} {x_3 : Int32} {h : mH} {K : Option Value → mH → Prop} (hk : Wm d (0, 0) JX12_merge 0 [some (.ref r_0), some (.int x_1), some (.int x_2), some (.int x_3), none, none, none] [] h (fun r h' => h'.1 0 = h.1 0 ∧ K r h')) : Ev d (0, 0) MX12_merge [.ref r_0, .int x_1, .int x_2, .int x_3] h K :=
  m_met pn_X12 nl_X12 (fun _ => Nat.le_of_ble_eq_true rfl) hk
theorem bk_X12_isSheet_0 {d : Nat} (r_0 : Nat) (x_1 : Int32) (x_2 : Int32) {h : mH} {Q : Option Value → mH → Prop} (hF : (∃ r1 : Nat, m_fld h r_0 [11] 5 = some (.ref r1) ∧ (∃ x2 : Int32, m_il h r1 x_1 = some x2 ∧ Ev d (0, 0) MX12_in [.long x_2.toInt64, .long 0, .long ((x2 - 1).toInt64)] h (fun r3 h4 => ∃ x5 : Int32, r3 = some (.int x5) ∧ ((x5 = 0 ∨ x5 = 1) ∧ Q (some (.int x5)) h4))))) : Wm (d + 1) (0, 0) JX12_isSheet 0 [some (.ref r_0), some (.int x_1), some (.int x_2)] [] h Q := by
  refine m_iload_n dX12_isSheet_0 rfl ?_
  refine m_i2l dX12_isSheet_1 ?_
  refine m_lconst dX12_isSheet_2 kl_0 ?_
  refine m_aload_n dX12_isSheet_3 rfl ?_
  obtain ⟨r1, e, hF⟩ := hF
  refine m_get fg_X12_19 dX12_isSheet_4 e ?_
  refine m_iload_n dX12_isSheet_7 rfl ?_
  obtain ⟨x2, e, hF⟩ := hF
  refine m_iald dX12_isSheet_8 e ?_
  refine m_iconst dX12_isSheet_9 ki_1 ?_
  refine m_isub dX12_isSheet_10 ?_
  refine m_i2l dX12_isSheet_11 ?_
  refine m_static (as := [.long x_2.toInt64, .long 0, .long ((x2 - 1).toInt64)]) (rest := []) cs_X12_88 dX12_isSheet_12 rfl rfl (Nat.le_of_ble_eq_true rfl) (Nat.le_of_eq (Nat.zero_add _)) (Nat.le_of_eq (Nat.zero_add _)) (b1 := (0, 0)) (b2 := (0, 0)) (Ev.mono hF ?_)
  intro r3 h4 hF
  obtain ⟨x5, rfl, hF⟩ := hF
  exact m_ireturn dX12_isSheet_15 hF.1 hF.2
theorem en_X12_isSheet {d : Nat} {r_0 : Nat} {x_1 : Int32} {x_2 : Int32} {h : mH} {K : Option Value → mH → Prop} (hk : Wm (d + 1) (0, 0) JX12_isSheet 0 [some (.ref r_0), some (.int x_1), some (.int x_2)] [] h (fun r h' => h'.1 0 = h.1 0 ∧ K r h')) : Ev (d + 1) (0, 0) MX12_isSheet [.ref r_0, .int x_1, .int x_2] h K :=
  m_met pn_X12 nl_X12 (fun _ => Nat.le_of_ble_eq_true rfl) hk
theorem bk_X12_between_0 {d : Nat} (r_0 : Nat) (x_1 : Int32) (x_2 : Int32) (x_3 : Int32) (x_4 : Int32) {h : mH} {Q : Option Value → mH → Prop} (hF : (∃ h1 : mH, m_put h r_0 11 0 (.int 0) = some h1 ∧ Ev d (0, 0) MX12_isPlace [.int x_1] h1 (fun r2 h3 => ∃ x4 : Int32, r2 = some (.int x4) ∧ ((x4 = 0 → Q (some (.int (-1000001))) h3) ∧ (¬ (x4 = 0) → Ev d (0, 0) MX12_isPlace [.int x_2] h3 (fun r5 h6 => ∃ x7 : Int32, r5 = some (.int x7) ∧ ((¬ x7 = 0 → (∃ x8 : Int32, m_fld h6 r_0 [11] 1 = some (.int x8) ∧ (∃ fs32 : List Value, (h6).1 r_0 = .inr (11, fs32) ∧ Ev d (0, 0) MX12_look [.ref r_0, .int x_2, .int 1] h6 (fun r9 h10 => ∃ x11 : Int32, r9 = some (.int x11) ∧ ((0 ≤ x11 → (∃ fs31 : List Value, (h10).1 r_0 = .inr (11, fs31) ∧ Ev d (0, 0) MX12_isSheet [.ref r_0, .int x_2, .int x_3] h10 (fun r12 h13 => ∃ x14 : Int32, r12 = some (.int x14) ∧ ((x14 = 0 → (∃ h15 : mH, m_put h13 r_0 11 1 (.int x8) = some h15 ∧ Q (some (.int (-1000001))) h15)) ∧ (¬ (x14 = 0) → (∃ fs30 : List Value, (h13).1 r_0 = .inr (11, fs30) ∧ Ev d (0, 0) MX12_isSheet [.ref r_0, .int x_2, .int x_4] h13 (fun r16 h17 => ∃ x18 : Int32, r16 = some (.int x18) ∧ ((¬ x18 = 0 → (∃ fs28 : List Value, (h17).1 r_0 = .inr (11, fs28) ∧ Ev d (0, 0) MX12_blocks [.ref r_0, .int x_2, .int x_3, .int x_4] h17 (fun r19 h20 => ∃ x21 : Int32, r19 = some (.int x21) ∧ (∃ r22 : Nat, m_fld h20 r_0 [11] 5 = some (.ref r22) ∧ (∃ h23 : mH, m_is h20 r22 10 x21 = some h23 ∧ (∃ r24 : Nat, m_fld h23 r_0 [11] 6 = some (.ref r24) ∧ (∃ r25 : Nat, m_fld h23 r_0 [11] 6 = some (.ref r25) ∧ (∃ x26 : Int32, m_il h23 r25 x_2 = some x26 ∧ (∃ h27 : mH, m_is h23 r24 10 x26 = some h27 ∧ Wm (d + 1) (0, 0) JX12_between 107 [some (.ref r_0), some (.int x_1), some (.int x_2), none, none, none, none, none, some (.int 0), none] [] h27 Q))))))))) ∧ (x18 = 0 → (∃ h29 : mH, m_put h17 r_0 11 1 (.int x8) = some h29 ∧ Q (some (.int (-1000001))) h29)))))))))) ∧ (¬ (0 ≤ x11) → Q (some (.int x11)) h10)))))) ∧ (x7 = 0 → Q (some (.int (-1000001))) h6)))))))) : Wm (d + 1) (0, 0) JX12_between 0 [some (.ref r_0), some (.int x_1), some (.int x_2), some (.int x_3), some (.int x_4), none, none, none, none, none] [] h Q := by
  refine m_aload_n dX12_between_0 rfl ?_
  refine m_iconst dX12_between_1 ki_0 ?_
  obtain ⟨h1, e, hF⟩ := hF
  refine m_putf fp_X12_78_11 dX12_between_2 trivial e ?_
  refine m_iload_n dX12_between_5 rfl ?_
  refine m_static (as := [.int x_1]) (rest := []) cs_X12_120 dX12_between_6 rfl rfl (Nat.le_of_ble_eq_true rfl) (Nat.le_of_eq (Nat.zero_add _)) (Nat.le_of_eq (Nat.zero_add _)) (b1 := (0, 0)) (b2 := (0, 0)) (Ev.mono hF ?_)
  intro r2 h3 hF
  obtain ⟨x4, rfl, hF⟩ := hF
  refine m_if_eq 19 dX12_between_9 (by decide) (fun c => ?_) (fun c => ?_)
  · replace hF := hF.1 c
    refine m_ldc dX12_between_19 kc_X12_98 ?_
    exact m_ireturn dX12_between_21 trivial hF
  · replace hF := hF.2 c
    refine m_iload_n dX12_between_12 rfl ?_
    refine m_static (as := [.int x_2]) (rest := []) cs_X12_120 dX12_between_13 rfl rfl (Nat.le_of_ble_eq_true rfl) (Nat.le_of_eq (Nat.zero_add _)) (Nat.le_of_eq (Nat.zero_add _)) (b1 := (0, 0)) (b2 := (0, 0)) (Ev.mono hF ?_)
    intro r5 h6 hF
    obtain ⟨x7, rfl, hF⟩ := hF
    refine m_if_ne 22 dX12_between_16 (by decide) (fun c => ?_) (fun c => ?_)
    · replace hF := hF.1 c
      refine m_aload_n dX12_between_22 rfl ?_
      obtain ⟨x8, e, hF⟩ := hF
      refine m_get fg_X12_82 dX12_between_23 e ?_
      refine m_istore (ls2 := [some (.ref r_0), some (.int x_1), some (.int x_2), some (.int x_3), some (.int x_4), some (.int x8), none, none, none, none]) dX12_between_26 (by decide) rfl ?_
      refine m_aload_n dX12_between_28 rfl ?_
      refine m_iload_n dX12_between_29 rfl ?_
      refine m_iconst dX12_between_30 ki_1 ?_
      obtain ⟨fs32, e, hF⟩ := hF
      refine m_virtual (as := [.int x_2, .int 1]) (rest := []) cv_X12_137_11 e dX12_between_31 rfl rfl (Nat.le_of_ble_eq_true rfl) (Nat.le_of_eq (Nat.zero_add _)) (Nat.le_of_eq (Nat.zero_add _)) (b1 := (0, 0)) (b2 := (0, 0)) (Ev.mono hF ?_)
      intro r9 h10 hF
      obtain ⟨x11, rfl, hF⟩ := hF
      refine m_istore (ls2 := [some (.ref r_0), some (.int x_1), some (.int x_2), some (.int x_3), some (.int x_4), some (.int x8), some (.int x11), none, none, none]) dX12_between_34 (by decide) rfl ?_
      refine m_iload dX12_between_36 rfl ?_
      refine m_if_ge 44 dX12_between_38 (by decide) (fun c => ?_) (fun c => ?_)
      · replace hF := hF.1 c
        refine m_aload_n dX12_between_44 rfl ?_
        refine m_iload_n dX12_between_45 rfl ?_
        refine m_iload_n dX12_between_46 rfl ?_
        obtain ⟨fs31, e, hF⟩ := hF
        refine m_virtual (as := [.int x_2, .int x_3]) (rest := []) cv_X12_154_11 e dX12_between_47 rfl rfl (Nat.le_of_ble_eq_true rfl) (Nat.le_of_eq (Nat.zero_add _)) (Nat.le_of_eq (Nat.zero_add _)) (b1 := (0, 0)) (b2 := (0, 0)) (Ev.mono hF ?_)
        intro r12 h13 hF
        obtain ⟨x14, rfl, hF⟩ := hF
        refine m_if_eq 63 dX12_between_50 (by decide) (fun c => ?_) (fun c => ?_)
        · replace hF := hF.1 c
          refine m_aload_n dX12_between_63 rfl ?_
          refine m_iload dX12_between_64 rfl ?_
          obtain ⟨h15, e, hF⟩ := hF
          refine m_putf fp_X12_82_11 dX12_between_66 trivial e ?_
          refine m_ldc dX12_between_69 kc_X12_98 ?_
          exact m_ireturn dX12_between_71 trivial hF
        · replace hF := hF.2 c
          refine m_aload_n dX12_between_53 rfl ?_
          refine m_iload_n dX12_between_54 rfl ?_
          refine m_iload dX12_between_55 rfl ?_
          obtain ⟨fs30, e, hF⟩ := hF
          refine m_virtual (as := [.int x_2, .int x_4]) (rest := []) cv_X12_154_11 e dX12_between_57 rfl rfl (Nat.le_of_ble_eq_true rfl) (Nat.le_of_eq (Nat.zero_add _)) (Nat.le_of_eq (Nat.zero_add _)) (b1 := (0, 0)) (b2 := (0, 0)) (Ev.mono hF ?_)
          intro r16 h17 hF
          obtain ⟨x18, rfl, hF⟩ := hF
          refine m_if_ne 72 dX12_between_60 (by decide) (fun c => ?_) (fun c => ?_)
          · replace hF := hF.1 c
            refine m_aload_n dX12_between_72 rfl ?_
            refine m_iload_n dX12_between_73 rfl ?_
            refine m_iload_n dX12_between_74 rfl ?_
            refine m_iload dX12_between_75 rfl ?_
            obtain ⟨fs28, e, hF⟩ := hF
            refine m_virtual (as := [.int x_2, .int x_3, .int x_4]) (rest := []) cv_X12_158_11 e dX12_between_77 rfl rfl (Nat.le_of_ble_eq_true rfl) (Nat.le_of_eq (Nat.zero_add _)) (Nat.le_of_eq (Nat.zero_add _)) (b1 := (0, 0)) (b2 := (0, 0)) (Ev.mono hF ?_)
            intro r19 h20 hF
            obtain ⟨x21, rfl, hF⟩ := hF
            refine m_istore (ls2 := [some (.ref r_0), some (.int x_1), some (.int x_2), some (.int x_3), some (.int x_4), some (.int x8), some (.int x11), some (.int x21), none, none]) dX12_between_80 (by decide) rfl ?_
            refine m_aload_n dX12_between_82 rfl ?_
            obtain ⟨r22, e, hF⟩ := hF
            refine m_get fg_X12_19 dX12_between_83 e ?_
            refine m_bipush dX12_between_86 kb_10 ?_
            refine m_iload dX12_between_88 rfl ?_
            obtain ⟨h23, e, hF⟩ := hF
            refine m_iast dX12_between_90 e ?_
            refine m_aload_n dX12_between_91 rfl ?_
            obtain ⟨r24, e, hF⟩ := hF
            refine m_get fg_X12_22 dX12_between_92 e ?_
            refine m_bipush dX12_between_95 kb_10 ?_
            refine m_aload_n dX12_between_97 rfl ?_
            obtain ⟨r25, e, hF⟩ := hF
            refine m_get fg_X12_22 dX12_between_98 e ?_
            refine m_iload_n dX12_between_101 rfl ?_
            obtain ⟨x26, e, hF⟩ := hF
            refine m_iald dX12_between_102 e ?_
            obtain ⟨h27, e, hF⟩ := hF
            refine m_iast dX12_between_103 e ?_
            refine m_iconst dX12_between_104 ki_0 ?_
            refine m_istore (ls2 := [some (.ref r_0), some (.int x_1), some (.int x_2), some (.int x_3), some (.int x_4), some (.int x8), some (.int x11), some (.int x21), some (.int 0), none]) dX12_between_105 (by decide) rfl ?_
            refine m_wk [3, 4, 5, 6, 7] rfl ?_
            exact hF
          · replace hF := hF.2 c
            refine m_aload_n dX12_between_63 rfl ?_
            refine m_iload dX12_between_64 rfl ?_
            obtain ⟨h29, e, hF⟩ := hF
            refine m_putf fp_X12_82_11 dX12_between_66 trivial e ?_
            refine m_ldc dX12_between_69 kc_X12_98 ?_
            exact m_ireturn dX12_between_71 trivial hF
      · replace hF := hF.2 c
        refine m_iload dX12_between_41 rfl ?_
        exact m_ireturn dX12_between_43 trivial hF
    · replace hF := hF.2 c
      refine m_ldc dX12_between_19 kc_X12_98 ?_
      exact m_ireturn dX12_between_21 trivial hF
theorem bk_X12_between_107 {d : Nat} (r_0 : Nat) (x_1 : Int32) (x_2 : Int32) (x_8 : Int32) {h : mH} {Q : Option Value → mH → Prop} (hF : (∃ r1 : Nat, m_fld h r_0 [11] 6 = some (.ref r1) ∧ (∃ x2 : Int32, m_il h r1 x_2 = some x2 ∧ ((x2 ≤ x_8 → (∃ fs6 : List Value, (h).1 r_0 = .inr (11, fs6) ∧ Ev d (0, 0) MX12_lay [.ref r_0, .int x_1] h (fun r3 h4 => ∃ x5 : Int32, r3 = some (.int x5) ∧ Q (some (.int x5)) h4))) ∧ (¬ (x2 ≤ x_8) → Wm (d + 1) (0, 0) JX12_between 121 [some (.ref r_0), some (.int x_1), some (.int x_2), none, none, none, none, none, some (.int x_8), some (.int 0)] [] h Q))))) : Wm (d + 1) (0, 0) JX12_between 107 [some (.ref r_0), some (.int x_1), some (.int x_2), none, none, none, none, none, some (.int x_8), none] [] h Q := by
  refine m_iload dX12_between_107 rfl ?_
  refine m_aload_n dX12_between_109 rfl ?_
  obtain ⟨r1, e, hF⟩ := hF
  refine m_get fg_X12_22 dX12_between_110 e ?_
  refine m_iload_n dX12_between_113 rfl ?_
  obtain ⟨x2, e, hF⟩ := hF
  refine m_iald dX12_between_114 e ?_
  refine m_icmp_ge 173 dX12_between_115 (by decide) (fun c => ?_) (fun c => ?_)
  · replace hF := hF.1 c
    refine m_aload_n dX12_between_173 rfl ?_
    refine m_iload_n dX12_between_174 rfl ?_
    obtain ⟨fs6, e, hF⟩ := hF
    refine m_virtual (as := [.int x_1]) (rest := []) cv_X12_131_11 e dX12_between_175 rfl rfl (Nat.le_of_ble_eq_true rfl) (Nat.le_of_eq (Nat.zero_add _)) (Nat.le_of_eq (Nat.zero_add _)) (b1 := (0, 0)) (b2 := (0, 0)) (Ev.mono hF ?_)
    intro r3 h4 hF
    obtain ⟨x5, rfl, hF⟩ := hF
    exact m_ireturn dX12_between_178 trivial hF
  · replace hF := hF.2 c
    refine m_iconst dX12_between_118 ki_0 ?_
    refine m_istore (ls2 := [some (.ref r_0), some (.int x_1), some (.int x_2), none, none, none, none, none, some (.int x_8), some (.int 0)]) dX12_between_119 (by decide) rfl ?_
    exact hF
theorem bk_X12_between_121 {d : Nat} (r_0 : Nat) (x_1 : Int32) (x_2 : Int32) (x_8 : Int32) (x_9 : Int32) {h : mH} {Q : Option Value → mH → Prop} (hF : (∃ r1 : Nat, m_fld h r_0 [11] 5 = some (.ref r1) ∧ (∃ x2 : Int32, m_il h r1 x_2 = some x2 ∧ ((x2 ≤ x_9 → Wm (d + 1) (0, 0) JX12_between 107 [some (.ref r_0), some (.int x_1), some (.int x_2), none, none, none, none, none, some (.int (x_8 + 1)), none] [] h Q) ∧ (¬ (x2 ≤ x_9) → (∃ r3 : Nat, m_fld h r_0 [11] 13 = some (.ref r3) ∧ (∃ x4 : Int32, m_il h r3 x_9 = some x4 ∧ (∃ r5 : Nat, m_fld h r_0 [11] 13 = some (.ref r5) ∧ (∃ fs13 : List Value, (h).1 r_0 = .inr (11, fs13) ∧ Ev d (0, 0) MX12_at [.ref r_0, .int x_2, .int x_8, .int x_9] h (fun r6 h7 => ∃ x8 : Int32, r6 = some (.int x8) ∧ (∃ x9 : Int32, m_il h7 r5 x8 = some x9 ∧ (∃ fs12 : List Value, (h7).1 r_0 = .inr (11, fs12) ∧ Ev d (0, 0) MX12_put [.ref r_0, .int 10, .int x_8, .int x4, .int x9] h7 (fun r10 h11 => r10 = none ∧ Wm (d + 1) (0, 0) JX12_between 121 [some (.ref r_0), some (.int x_1), some (.int x_2), none, none, none, none, none, some (.int x_8), some (.int (x_9 + 1))] [] h11 Q))))))))))))) : Wm (d + 1) (0, 0) JX12_between 121 [some (.ref r_0), some (.int x_1), some (.int x_2), none, none, none, none, none, some (.int x_8), some (.int x_9)] [] h Q := by
  refine m_iload dX12_between_121 rfl ?_
  refine m_aload_n dX12_between_123 rfl ?_
  obtain ⟨r1, e, hF⟩ := hF
  refine m_get fg_X12_19 dX12_between_124 e ?_
  refine m_iload_n dX12_between_127 rfl ?_
  obtain ⟨x2, e, hF⟩ := hF
  refine m_iald dX12_between_128 e ?_
  refine m_icmp_ge 167 dX12_between_129 (by decide) (fun c => ?_) (fun c => ?_)
  · replace hF := hF.1 c
    refine m_iinc (v := x_8 + 1) (ls2 := [some (.ref r_0), some (.int x_1), some (.int x_2), none, none, none, none, none, some (.int (x_8 + 1)), some (.int x_9)]) dX12_between_167 (by decide) rfl (congrArg (_ + ·) ki_1) rfl ?_
    refine m_goto 107 dX12_between_170 (by decide) ?_
    refine m_wk [9] rfl ?_
    exact hF
  · replace hF := hF.2 c
    refine m_aload_n dX12_between_132 rfl ?_
    refine m_bipush dX12_between_133 kb_10 ?_
    refine m_iload dX12_between_135 rfl ?_
    refine m_aload_n dX12_between_137 rfl ?_
    obtain ⟨r3, e, hF⟩ := hF
    refine m_get fg_X12_44 dX12_between_138 e ?_
    refine m_iload dX12_between_141 rfl ?_
    obtain ⟨x4, e, hF⟩ := hF
    refine m_iald dX12_between_143 e ?_
    refine m_aload_n dX12_between_144 rfl ?_
    obtain ⟨r5, e, hF⟩ := hF
    refine m_get fg_X12_44 dX12_between_145 e ?_
    refine m_aload_n dX12_between_148 rfl ?_
    refine m_iload_n dX12_between_149 rfl ?_
    refine m_iload dX12_between_150 rfl ?_
    refine m_iload dX12_between_152 rfl ?_
    obtain ⟨fs13, e, hF⟩ := hF
    refine m_virtual (as := [.int x_2, .int x_8, .int x_9]) (rest := [.ref r5, .int x4, .int x_8, .int 10, .ref r_0]) cv_X12_105_11 e dX12_between_154 rfl rfl (Nat.le_of_ble_eq_true rfl) (Nat.le_of_eq (Nat.zero_add _)) (Nat.le_of_eq (Nat.zero_add _)) (b1 := (0, 0)) (b2 := (0, 0)) (Ev.mono hF ?_)
    intro r6 h7 hF
    obtain ⟨x8, rfl, hF⟩ := hF
    obtain ⟨x9, e, hF⟩ := hF
    refine m_iald dX12_between_157 e ?_
    obtain ⟨fs12, e, hF⟩ := hF
    refine m_virtual (as := [.int 10, .int x_8, .int x4, .int x9]) (rest := []) cv_X12_127_11 e dX12_between_158 rfl rfl (Nat.le_of_ble_eq_true rfl) (Nat.le_of_eq (Nat.zero_add _)) (Nat.le_of_eq (Nat.zero_add _)) (b1 := (0, 0)) (b2 := (0, 0)) (Ev.mono hF ?_)
    intro r10 h11 hF
    obtain ⟨rfl, hF⟩ := hF
    refine m_iinc (v := x_9 + 1) (ls2 := [some (.ref r_0), some (.int x_1), some (.int x_2), none, none, none, none, none, some (.int x_8), some (.int (x_9 + 1))]) dX12_between_161 (by decide) rfl (congrArg (_ + ·) ki_1) rfl ?_
    refine m_goto 121 dX12_between_164 (by decide) ?_
    exact hF
theorem en_X12_between {d : Nat} {r_0 : Nat} {x_1 : Int32} {x_2 : Int32} {x_3 : Int32} {x_4 : Int32} {h : mH} {K : Option Value → mH → Prop} (hk : Wm (d + 1) (0, 0) JX12_between 0 [some (.ref r_0), some (.int x_1), some (.int x_2), some (.int x_3), some (.int x_4), none, none, none, none, none] [] h (fun r h' => h'.1 0 = h.1 0 ∧ K r h')) : Ev (d + 1) (0, 0) MX12_between [.ref r_0, .int x_1, .int x_2, .int x_3, .int x_4] h K :=
  m_met pn_X12 nl_X12 (fun _ => Nat.le_of_ble_eq_true rfl) hk
theorem bk_X12_braided_0 {d : Nat} (r_0 : Nat) (x_1 : Int32) (x_2 : Int32) (x_3 : Int32) (x_4 : Int32) {h : mH} {Q : Option Value → mH → Prop} (hF : (∃ fs3 : List Value, (h).1 r_0 = .inr (11, fs3) ∧ Ev d (0, 0) MX12_become [.ref r_0, .int x_1, .int x_2] h (fun r1 h2 => r1 = none ∧ Wm (d + 1) (0, 0) JX12_braided 9 [some (.ref r_0), some (.int x_1), some (.int x_2), some (.int x_3), some (.int x_4), some (.int 0)] [] h2 Q))) : Wm (d + 1) (0, 0) JX12_braided 0 [some (.ref r_0), some (.int x_1), some (.int x_2), some (.int x_3), some (.int x_4), none] [] h Q := by
  refine m_aload_n dX12_braided_0 rfl ?_
  refine m_iload_n dX12_braided_1 rfl ?_
  refine m_iload_n dX12_braided_2 rfl ?_
  obtain ⟨fs3, e, hF⟩ := hF
  refine m_virtual (as := [.int x_1, .int x_2]) (rest := []) cv_X12_113_11 e dX12_braided_3 rfl rfl (Nat.le_of_ble_eq_true rfl) (Nat.le_of_eq (Nat.zero_add _)) (Nat.le_of_eq (Nat.zero_add _)) (b1 := (0, 0)) (b2 := (0, 0)) (Ev.mono hF ?_)
  intro r1 h2 hF
  obtain ⟨rfl, hF⟩ := hF
  refine m_iconst dX12_braided_6 ki_0 ?_
  refine m_istore (ls2 := [some (.ref r_0), some (.int x_1), some (.int x_2), some (.int x_3), some (.int x_4), some (.int 0)]) dX12_braided_7 (by decide) rfl ?_
  exact hF
theorem bk_X12_braided_9 {d : Nat} (r_0 : Nat) (x_1 : Int32) (x_2 : Int32) (x_3 : Int32) (x_4 : Int32) (x_5 : Int32) {h : mH} {Q : Option Value → mH → Prop} (hF : (∃ r1 : Nat, m_fld h r_0 [11] 5 = some (.ref r1) ∧ (∃ x2 : Int32, m_il h r1 x_2 = some x2 ∧ ((x2 ≤ x_5 → Q none h) ∧ (¬ (x2 ≤ x_5) → ((¬ x_4 = 0 → (∃ fs24 : List Value, (h).1 r_0 = .inr (11, fs24) ∧ Ev d (0, 0) MX12_at [.ref r_0, .int x_2, .int x_3, .int x_5] h (fun r3 h4 => ∃ x5 : Int32, r3 = some (.int x5) ∧ (∃ fs23 : List Value, (h4).1 r_0 = .inr (11, fs23) ∧ Ev d (0, 0) MX12_put [.ref r_0, .int x_1, .int (x_3 + 1), .int x_5, .int x5] h4 (fun r6 h7 => r6 = none ∧ (∃ fs22 : List Value, (h7).1 r_0 = .inr (11, fs22) ∧ Ev d (0, 0) MX12_at [.ref r_0, .int x_2, .int x_3, .int x_5] h7 (fun r8 h9 => ∃ x10 : Int32, r8 = some (.int x10) ∧ (∃ fs21 : List Value, (h9).1 r_0 = .inr (11, fs21) ∧ Ev d (0, 0) MX12_at [.ref r_0, .int x_2, .int (x_3 + 1), .int x10] h9 (fun r11 h12 => ∃ x13 : Int32, r11 = some (.int x13) ∧ (∃ fs20 : List Value, (h12).1 r_0 = .inr (11, fs20) ∧ Ev d (0, 0) MX12_backAt [.ref r_0, .int x_2, .int x_3, .int x13] h12 (fun r14 h15 => ∃ x16 : Int32, r14 = some (.int x16) ∧ (∃ fs19 : List Value, (h15).1 r_0 = .inr (11, fs19) ∧ Ev d (0, 0) MX12_put [.ref r_0, .int x_1, .int x_3, .int x_5, .int x16] h15 (fun r17 h18 => r17 = none ∧ Wm (d + 1) (0, 0) JX12_braided 9 [some (.ref r_0), some (.int x_1), some (.int x_2), some (.int x_3), some (.int x_4), some (.int (x_5 + 1))] [] h18 Q))))))))))))) ∧ (x_4 = 0 → (∃ fs46 : List Value, (h).1 r_0 = .inr (11, fs46) ∧ Ev d (0, 0) MX12_at [.ref r_0, .int x_2, .int (x_3 + 1), .int x_5] h (fun r25 h26 => ∃ x27 : Int32, r25 = some (.int x27) ∧ (∃ fs45 : List Value, (h26).1 r_0 = .inr (11, fs45) ∧ Ev d (0, 0) MX12_put [.ref r_0, .int x_1, .int x_3, .int x_5, .int x27] h26 (fun r28 h29 => r28 = none ∧ (∃ fs44 : List Value, (h29).1 r_0 = .inr (11, fs44) ∧ Ev d (0, 0) MX12_backAt [.ref r_0, .int x_2, .int (x_3 + 1), .int x_5] h29 (fun r30 h31 => ∃ x32 : Int32, r30 = some (.int x32) ∧ (∃ fs43 : List Value, (h31).1 r_0 = .inr (11, fs43) ∧ Ev d (0, 0) MX12_at [.ref r_0, .int x_2, .int x_3, .int x32] h31 (fun r33 h34 => ∃ x35 : Int32, r33 = some (.int x35) ∧ (∃ fs42 : List Value, (h34).1 r_0 = .inr (11, fs42) ∧ Ev d (0, 0) MX12_at [.ref r_0, .int x_2, .int (x_3 + 1), .int x35] h34 (fun r36 h37 => ∃ x38 : Int32, r36 = some (.int x38) ∧ (∃ fs41 : List Value, (h37).1 r_0 = .inr (11, fs41) ∧ Ev d (0, 0) MX12_put [.ref r_0, .int x_1, .int (x_3 + 1), .int x_5, .int x38] h37 (fun r39 h40 => r39 = none ∧ Wm (d + 1) (0, 0) JX12_braided 9 [some (.ref r_0), some (.int x_1), some (.int x_2), some (.int x_3), some (.int x_4), some (.int (x_5 + 1))] [] h40 Q))))))))))))))))))) : Wm (d + 1) (0, 0) JX12_braided 9 [some (.ref r_0), some (.int x_1), some (.int x_2), some (.int x_3), some (.int x_4), some (.int x_5)] [] h Q := by
  refine m_iload dX12_braided_9 rfl ?_
  refine m_aload_n dX12_braided_11 rfl ?_
  obtain ⟨r1, e, hF⟩ := hF
  refine m_get fg_X12_19 dX12_braided_12 e ?_
  refine m_iload_n dX12_braided_15 rfl ?_
  obtain ⟨x2, e, hF⟩ := hF
  refine m_iald dX12_braided_16 e ?_
  refine m_icmp_ge 134 dX12_braided_17 (by decide) (fun c => ?_) (fun c => ?_)
  · replace hF := hF.1 c
    exact m_return dX12_braided_134 trivial hF
  · replace hF := hF.2 c
    refine m_iload dX12_braided_20 rfl ?_
    refine m_if_ne 80 dX12_braided_22 (by decide) (fun c => ?_) (fun c => ?_)
    · replace hF := hF.1 c
      refine m_aload_n dX12_braided_80 rfl ?_
      refine m_iload_n dX12_braided_81 rfl ?_
      refine m_iload_n dX12_braided_82 rfl ?_
      refine m_iconst dX12_braided_83 ki_1 ?_
      refine m_iadd dX12_braided_84 ?_
      refine m_iload dX12_braided_85 rfl ?_
      refine m_aload_n dX12_braided_87 rfl ?_
      refine m_iload_n dX12_braided_88 rfl ?_
      refine m_iload_n dX12_braided_89 rfl ?_
      refine m_iload dX12_braided_90 rfl ?_
      obtain ⟨fs24, e, hF⟩ := hF
      refine m_virtual (as := [.int x_2, .int x_3, .int x_5]) (rest := [.int x_5, .int (x_3 + 1), .int x_1, .ref r_0]) cv_X12_105_11 e dX12_braided_92 rfl rfl (Nat.le_of_ble_eq_true rfl) (Nat.le_of_eq (Nat.zero_add _)) (Nat.le_of_eq (Nat.zero_add _)) (b1 := (0, 0)) (b2 := (0, 0)) (Ev.mono hF ?_)
      intro r3 h4 hF
      obtain ⟨x5, rfl, hF⟩ := hF
      obtain ⟨fs23, e, hF⟩ := hF
      refine m_virtual (as := [.int x_1, .int (x_3 + 1), .int x_5, .int x5]) (rest := []) cv_X12_127_11 e dX12_braided_95 rfl rfl (Nat.le_of_ble_eq_true rfl) (Nat.le_of_eq (Nat.zero_add _)) (Nat.le_of_eq (Nat.zero_add _)) (b1 := (0, 0)) (b2 := (0, 0)) (Ev.mono hF ?_)
      intro r6 h7 hF
      obtain ⟨rfl, hF⟩ := hF
      refine m_aload_n dX12_braided_98 rfl ?_
      refine m_iload_n dX12_braided_99 rfl ?_
      refine m_iload_n dX12_braided_100 rfl ?_
      refine m_iload dX12_braided_101 rfl ?_
      refine m_aload_n dX12_braided_103 rfl ?_
      refine m_iload_n dX12_braided_104 rfl ?_
      refine m_iload_n dX12_braided_105 rfl ?_
      refine m_aload_n dX12_braided_106 rfl ?_
      refine m_iload_n dX12_braided_107 rfl ?_
      refine m_iload_n dX12_braided_108 rfl ?_
      refine m_iconst dX12_braided_109 ki_1 ?_
      refine m_iadd dX12_braided_110 ?_
      refine m_aload_n dX12_braided_111 rfl ?_
      refine m_iload_n dX12_braided_112 rfl ?_
      refine m_iload_n dX12_braided_113 rfl ?_
      refine m_iload dX12_braided_114 rfl ?_
      obtain ⟨fs22, e, hF⟩ := hF
      refine m_virtual12 (as := [.int x_2, .int x_3, .int x_5]) (rest := [.int (x_3 + 1), .int x_2, .ref r_0, .int x_3, .int x_2, .ref r_0, .int x_5, .int x_3, .int x_1, .ref r_0]) c1_X12_105_11 (by decide) e dX12_braided_116 rfl rfl (Nat.le_of_ble_eq_true rfl) (Nat.le_of_eq (Nat.zero_add _)) (Nat.le_of_eq (Nat.zero_add _)) (b1 := (0, 0)) (b2 := (0, 0)) (Ev.mono hF ?_)
      intro r8 h9 hF
      obtain ⟨x10, rfl, hF⟩ := hF
      obtain ⟨fs21, e, hF⟩ := hF
      refine m_virtual (as := [.int x_2, .int (x_3 + 1), .int x10]) (rest := [.int x_3, .int x_2, .ref r_0, .int x_5, .int x_3, .int x_1, .ref r_0]) cv_X12_105_11 e dX12_braided_119 rfl rfl (Nat.le_of_ble_eq_true rfl) (Nat.le_of_eq (Nat.zero_add _)) (Nat.le_of_eq (Nat.zero_add _)) (b1 := (0, 0)) (b2 := (0, 0)) (Ev.mono hF ?_)
      intro r11 h12 hF
      obtain ⟨x13, rfl, hF⟩ := hF
      obtain ⟨fs20, e, hF⟩ := hF
      refine m_virtual (as := [.int x_2, .int x_3, .int x13]) (rest := [.int x_5, .int x_3, .int x_1, .ref r_0]) cv_X12_161_11 e dX12_braided_122 rfl rfl (Nat.le_of_ble_eq_true rfl) (Nat.le_of_eq (Nat.zero_add _)) (Nat.le_of_eq (Nat.zero_add _)) (b1 := (0, 0)) (b2 := (0, 0)) (Ev.mono hF ?_)
      intro r14 h15 hF
      obtain ⟨x16, rfl, hF⟩ := hF
      obtain ⟨fs19, e, hF⟩ := hF
      refine m_virtual (as := [.int x_1, .int x_3, .int x_5, .int x16]) (rest := []) cv_X12_127_11 e dX12_braided_125 rfl rfl (Nat.le_of_ble_eq_true rfl) (Nat.le_of_eq (Nat.zero_add _)) (Nat.le_of_eq (Nat.zero_add _)) (b1 := (0, 0)) (b2 := (0, 0)) (Ev.mono hF ?_)
      intro r17 h18 hF
      obtain ⟨rfl, hF⟩ := hF
      refine m_iinc (v := x_5 + 1) (ls2 := [some (.ref r_0), some (.int x_1), some (.int x_2), some (.int x_3), some (.int x_4), some (.int (x_5 + 1))]) dX12_braided_128 (by decide) rfl (congrArg (_ + ·) ki_1) rfl ?_
      refine m_goto 9 dX12_braided_131 (by decide) ?_
      exact hF
    · replace hF := hF.2 c
      refine m_aload_n dX12_braided_25 rfl ?_
      refine m_iload_n dX12_braided_26 rfl ?_
      refine m_iload_n dX12_braided_27 rfl ?_
      refine m_iload dX12_braided_28 rfl ?_
      refine m_aload_n dX12_braided_30 rfl ?_
      refine m_iload_n dX12_braided_31 rfl ?_
      refine m_iload_n dX12_braided_32 rfl ?_
      refine m_iconst dX12_braided_33 ki_1 ?_
      refine m_iadd dX12_braided_34 ?_
      refine m_iload dX12_braided_35 rfl ?_
      obtain ⟨fs46, e, hF⟩ := hF
      refine m_virtual (as := [.int x_2, .int (x_3 + 1), .int x_5]) (rest := [.int x_5, .int x_3, .int x_1, .ref r_0]) cv_X12_105_11 e dX12_braided_37 rfl rfl (Nat.le_of_ble_eq_true rfl) (Nat.le_of_eq (Nat.zero_add _)) (Nat.le_of_eq (Nat.zero_add _)) (b1 := (0, 0)) (b2 := (0, 0)) (Ev.mono hF ?_)
      intro r25 h26 hF
      obtain ⟨x27, rfl, hF⟩ := hF
      obtain ⟨fs45, e, hF⟩ := hF
      refine m_virtual (as := [.int x_1, .int x_3, .int x_5, .int x27]) (rest := []) cv_X12_127_11 e dX12_braided_40 rfl rfl (Nat.le_of_ble_eq_true rfl) (Nat.le_of_eq (Nat.zero_add _)) (Nat.le_of_eq (Nat.zero_add _)) (b1 := (0, 0)) (b2 := (0, 0)) (Ev.mono hF ?_)
      intro r28 h29 hF
      obtain ⟨rfl, hF⟩ := hF
      refine m_aload_n dX12_braided_43 rfl ?_
      refine m_iload_n dX12_braided_44 rfl ?_
      refine m_iload_n dX12_braided_45 rfl ?_
      refine m_iconst dX12_braided_46 ki_1 ?_
      refine m_iadd dX12_braided_47 ?_
      refine m_iload dX12_braided_48 rfl ?_
      refine m_aload_n dX12_braided_50 rfl ?_
      refine m_iload_n dX12_braided_51 rfl ?_
      refine m_iload_n dX12_braided_52 rfl ?_
      refine m_iconst dX12_braided_53 ki_1 ?_
      refine m_iadd dX12_braided_54 ?_
      refine m_aload_n dX12_braided_55 rfl ?_
      refine m_iload_n dX12_braided_56 rfl ?_
      refine m_iload_n dX12_braided_57 rfl ?_
      refine m_aload_n dX12_braided_58 rfl ?_
      refine m_iload_n dX12_braided_59 rfl ?_
      refine m_iload_n dX12_braided_60 rfl ?_
      refine m_iconst dX12_braided_61 ki_1 ?_
      refine m_iadd dX12_braided_62 ?_
      refine m_iload dX12_braided_63 rfl ?_
      obtain ⟨fs44, e, hF⟩ := hF
      refine m_virtual12 (as := [.int x_2, .int (x_3 + 1), .int x_5]) (rest := [.int x_3, .int x_2, .ref r_0, .int (x_3 + 1), .int x_2, .ref r_0, .int x_5, .int (x_3 + 1), .int x_1, .ref r_0]) c1_X12_161_11 (by decide) e dX12_braided_65 rfl rfl (Nat.le_of_ble_eq_true rfl) (Nat.le_of_eq (Nat.zero_add _)) (Nat.le_of_eq (Nat.zero_add _)) (b1 := (0, 0)) (b2 := (0, 0)) (Ev.mono hF ?_)
      intro r30 h31 hF
      obtain ⟨x32, rfl, hF⟩ := hF
      obtain ⟨fs43, e, hF⟩ := hF
      refine m_virtual (as := [.int x_2, .int x_3, .int x32]) (rest := [.int (x_3 + 1), .int x_2, .ref r_0, .int x_5, .int (x_3 + 1), .int x_1, .ref r_0]) cv_X12_105_11 e dX12_braided_68 rfl rfl (Nat.le_of_ble_eq_true rfl) (Nat.le_of_eq (Nat.zero_add _)) (Nat.le_of_eq (Nat.zero_add _)) (b1 := (0, 0)) (b2 := (0, 0)) (Ev.mono hF ?_)
      intro r33 h34 hF
      obtain ⟨x35, rfl, hF⟩ := hF
      obtain ⟨fs42, e, hF⟩ := hF
      refine m_virtual (as := [.int x_2, .int (x_3 + 1), .int x35]) (rest := [.int x_5, .int (x_3 + 1), .int x_1, .ref r_0]) cv_X12_105_11 e dX12_braided_71 rfl rfl (Nat.le_of_ble_eq_true rfl) (Nat.le_of_eq (Nat.zero_add _)) (Nat.le_of_eq (Nat.zero_add _)) (b1 := (0, 0)) (b2 := (0, 0)) (Ev.mono hF ?_)
      intro r36 h37 hF
      obtain ⟨x38, rfl, hF⟩ := hF
      obtain ⟨fs41, e, hF⟩ := hF
      refine m_virtual (as := [.int x_1, .int (x_3 + 1), .int x_5, .int x38]) (rest := []) cv_X12_127_11 e dX12_braided_74 rfl rfl (Nat.le_of_ble_eq_true rfl) (Nat.le_of_eq (Nat.zero_add _)) (Nat.le_of_eq (Nat.zero_add _)) (b1 := (0, 0)) (b2 := (0, 0)) (Ev.mono hF ?_)
      intro r39 h40 hF
      obtain ⟨rfl, hF⟩ := hF
      refine m_goto 128 dX12_braided_77 (by decide) ?_
      refine m_iinc (v := x_5 + 1) (ls2 := [some (.ref r_0), some (.int x_1), some (.int x_2), some (.int x_3), some (.int x_4), some (.int (x_5 + 1))]) dX12_braided_128 (by decide) rfl (congrArg (_ + ·) ki_1) rfl ?_
      refine m_goto 9 dX12_braided_131 (by decide) ?_
      exact hF
theorem en_X12_braided {d : Nat} {r_0 : Nat} {x_1 : Int32} {x_2 : Int32} {x_3 : Int32} {x_4 : Int32} {h : mH} {K : Option Value → mH → Prop} (hk : Wm (d + 1) (0, 0) JX12_braided 0 [some (.ref r_0), some (.int x_1), some (.int x_2), some (.int x_3), some (.int x_4), none] [] h (fun r h' => h'.1 0 = h.1 0 ∧ K r h')) : Ev (d + 1) (0, 0) MX12_braided [.ref r_0, .int x_1, .int x_2, .int x_3, .int x_4] h K :=
  m_met pn_X12 nl_X12 (fun _ => Nat.le_of_ble_eq_true rfl) hk
theorem bk_X12_braid_0 {d : Nat} (r_0 : Nat) (x_1 : Int32) (x_2 : Int32) (x_3 : Int32) (x_4 : Int32) {h : mH} {Q : Option Value → mH → Prop} (hF : (∃ h1 : mH, m_put h r_0 11 0 (.int 0) = some h1 ∧ Ev d (0, 0) MX12_isPlace [.int x_1] h1 (fun r2 h3 => ∃ x4 : Int32, r2 = some (.int x4) ∧ ((x4 = 0 → Q (some (.int (-1000001))) h3) ∧ (¬ (x4 = 0) → Ev d (0, 0) MX12_isPlace [.int x_2] h3 (fun r5 h6 => ∃ x7 : Int32, r5 = some (.int x7) ∧ ((x7 = 0 → Q (some (.int (-1000001))) h6) ∧ (¬ (x7 = 0) → Ev d (0, 0) MX12_in [.long x_4.toInt64, .long 0, .long 1] h6 (fun r8 h9 => ∃ x10 : Int32, r8 = some (.int x10) ∧ ((¬ x10 = 0 → (∃ x11 : Int32, m_fld h9 r_0 [11] 1 = some (.int x11) ∧ (∃ fs28 : List Value, (h9).1 r_0 = .inr (11, fs28) ∧ Ev d (0, 0) MX12_look [.ref r_0, .int x_2, .int 0] h9 (fun r12 h13 => ∃ x14 : Int32, r12 = some (.int x14) ∧ ((0 ≤ x14 → (∃ r15 : Nat, m_fld h13 r_0 [11] 6 = some (.ref r15) ∧ (∃ x16 : Int32, m_il h13 r15 x_2 = some x16 ∧ Ev d (0, 0) MX12_in [.long x_3.toInt64, .long 0, .long ((x16 - 2).toInt64)] h13 (fun r17 h18 => ∃ x19 : Int32, r17 = some (.int x19) ∧ ((¬ x19 = 0 → (∃ fs26 : List Value, (h18).1 r_0 = .inr (11, fs26) ∧ Ev d (0, 0) MX12_braided [.ref r_0, .int 10, .int x_2, .int x_3, .int x_4] h18 (fun r20 h21 => r20 = none ∧ (∃ fs25 : List Value, (h21).1 r_0 = .inr (11, fs25) ∧ Ev d (0, 0) MX12_lay [.ref r_0, .int x_1] h21 (fun r22 h23 => ∃ x24 : Int32, r22 = some (.int x24) ∧ Q (some (.int x24)) h23))))) ∧ (x19 = 0 → (∃ h27 : mH, m_put h18 r_0 11 1 (.int x11) = some h27 ∧ Q (some (.int (-1000001))) h27))))))) ∧ (¬ (0 ≤ x14) → Q (some (.int x14)) h13)))))) ∧ (x10 = 0 → Q (some (.int (-1000001))) h9))))))))))) : Wm (d + 1) (0, 0) JX12_braid 0 [some (.ref r_0), some (.int x_1), some (.int x_2), some (.int x_3), some (.int x_4), none, none] [] h Q := by
  refine m_aload_n dX12_braid_0 rfl ?_
  refine m_iconst dX12_braid_1 ki_0 ?_
  obtain ⟨h1, e, hF⟩ := hF
  refine m_putf fp_X12_78_11 dX12_braid_2 trivial e ?_
  refine m_iload_n dX12_braid_5 rfl ?_
  refine m_static (as := [.int x_1]) (rest := []) cs_X12_120 dX12_braid_6 rfl rfl (Nat.le_of_ble_eq_true rfl) (Nat.le_of_eq (Nat.zero_add _)) (Nat.le_of_eq (Nat.zero_add _)) (b1 := (0, 0)) (b2 := (0, 0)) (Ev.mono hF ?_)
  intro r2 h3 hF
  obtain ⟨x4, rfl, hF⟩ := hF
  refine m_if_eq 30 dX12_braid_9 (by decide) (fun c => ?_) (fun c => ?_)
  · replace hF := hF.1 c
    refine m_ldc dX12_braid_30 kc_X12_98 ?_
    exact m_ireturn dX12_braid_32 trivial hF
  · replace hF := hF.2 c
    refine m_iload_n dX12_braid_12 rfl ?_
    refine m_static (as := [.int x_2]) (rest := []) cs_X12_120 dX12_braid_13 rfl rfl (Nat.le_of_ble_eq_true rfl) (Nat.le_of_eq (Nat.zero_add _)) (Nat.le_of_eq (Nat.zero_add _)) (b1 := (0, 0)) (b2 := (0, 0)) (Ev.mono hF ?_)
    intro r5 h6 hF
    obtain ⟨x7, rfl, hF⟩ := hF
    refine m_if_eq 30 dX12_braid_16 (by decide) (fun c => ?_) (fun c => ?_)
    · replace hF := hF.1 c
      refine m_ldc dX12_braid_30 kc_X12_98 ?_
      exact m_ireturn dX12_braid_32 trivial hF
    · replace hF := hF.2 c
      refine m_iload dX12_braid_19 rfl ?_
      refine m_i2l dX12_braid_21 ?_
      refine m_lconst dX12_braid_22 kl_0 ?_
      refine m_lconst dX12_braid_23 kl_1 ?_
      refine m_static (as := [.long x_4.toInt64, .long 0, .long 1]) (rest := []) cs_X12_88 dX12_braid_24 rfl rfl (Nat.le_of_ble_eq_true rfl) (Nat.le_of_eq (Nat.zero_add _)) (Nat.le_of_eq (Nat.zero_add _)) (b1 := (0, 0)) (b2 := (0, 0)) (Ev.mono hF ?_)
      intro r8 h9 hF
      obtain ⟨x10, rfl, hF⟩ := hF
      refine m_if_ne 33 dX12_braid_27 (by decide) (fun c => ?_) (fun c => ?_)
      · replace hF := hF.1 c
        refine m_aload_n dX12_braid_33 rfl ?_
        obtain ⟨x11, e, hF⟩ := hF
        refine m_get fg_X12_82 dX12_braid_34 e ?_
        refine m_istore (ls2 := [some (.ref r_0), some (.int x_1), some (.int x_2), some (.int x_3), some (.int x_4), some (.int x11), none]) dX12_braid_37 (by decide) rfl ?_
        refine m_aload_n dX12_braid_39 rfl ?_
        refine m_iload_n dX12_braid_40 rfl ?_
        refine m_iconst dX12_braid_41 ki_0 ?_
        obtain ⟨fs28, e, hF⟩ := hF
        refine m_virtual (as := [.int x_2, .int 0]) (rest := []) cv_X12_137_11 e dX12_braid_42 rfl rfl (Nat.le_of_ble_eq_true rfl) (Nat.le_of_eq (Nat.zero_add _)) (Nat.le_of_eq (Nat.zero_add _)) (b1 := (0, 0)) (b2 := (0, 0)) (Ev.mono hF ?_)
        intro r12 h13 hF
        obtain ⟨x14, rfl, hF⟩ := hF
        refine m_istore (ls2 := [some (.ref r_0), some (.int x_1), some (.int x_2), some (.int x_3), some (.int x_4), some (.int x11), some (.int x14)]) dX12_braid_45 (by decide) rfl ?_
        refine m_iload dX12_braid_47 rfl ?_
        refine m_if_ge 55 dX12_braid_49 (by decide) (fun c => ?_) (fun c => ?_)
        · replace hF := hF.1 c
          refine m_iload_n dX12_braid_55 rfl ?_
          refine m_i2l dX12_braid_56 ?_
          refine m_lconst dX12_braid_57 kl_0 ?_
          refine m_aload_n dX12_braid_58 rfl ?_
          obtain ⟨r15, e, hF⟩ := hF
          refine m_get fg_X12_22 dX12_braid_59 e ?_
          refine m_iload_n dX12_braid_62 rfl ?_
          obtain ⟨x16, e, hF⟩ := hF
          refine m_iald dX12_braid_63 e ?_
          refine m_iconst dX12_braid_64 ki_2 ?_
          refine m_isub dX12_braid_65 ?_
          refine m_i2l dX12_braid_66 ?_
          refine m_static (as := [.long x_3.toInt64, .long 0, .long ((x16 - 2).toInt64)]) (rest := []) cs_X12_88 dX12_braid_67 rfl rfl (Nat.le_of_ble_eq_true rfl) (Nat.le_of_eq (Nat.zero_add _)) (Nat.le_of_eq (Nat.zero_add _)) (b1 := (0, 0)) (b2 := (0, 0)) (Ev.mono hF ?_)
          intro r17 h18 hF
          obtain ⟨x19, rfl, hF⟩ := hF
          refine m_if_ne 82 dX12_braid_70 (by decide) (fun c => ?_) (fun c => ?_)
          · replace hF := hF.1 c
            refine m_aload_n dX12_braid_82 rfl ?_
            refine m_bipush dX12_braid_83 kb_10 ?_
            refine m_iload_n dX12_braid_85 rfl ?_
            refine m_iload_n dX12_braid_86 rfl ?_
            refine m_iload dX12_braid_87 rfl ?_
            obtain ⟨fs26, e, hF⟩ := hF
            refine m_virtual (as := [.int 10, .int x_2, .int x_3, .int x_4]) (rest := []) cv_X12_164_11 e dX12_braid_89 rfl rfl (Nat.le_of_ble_eq_true rfl) (Nat.le_of_eq (Nat.zero_add _)) (Nat.le_of_eq (Nat.zero_add _)) (b1 := (0, 0)) (b2 := (0, 0)) (Ev.mono hF ?_)
            intro r20 h21 hF
            obtain ⟨rfl, hF⟩ := hF
            refine m_aload_n dX12_braid_92 rfl ?_
            refine m_iload_n dX12_braid_93 rfl ?_
            obtain ⟨fs25, e, hF⟩ := hF
            refine m_virtual (as := [.int x_1]) (rest := []) cv_X12_131_11 e dX12_braid_94 rfl rfl (Nat.le_of_ble_eq_true rfl) (Nat.le_of_eq (Nat.zero_add _)) (Nat.le_of_eq (Nat.zero_add _)) (b1 := (0, 0)) (b2 := (0, 0)) (Ev.mono hF ?_)
            intro r22 h23 hF
            obtain ⟨x24, rfl, hF⟩ := hF
            exact m_ireturn dX12_braid_97 trivial hF
          · replace hF := hF.2 c
            refine m_aload_n dX12_braid_73 rfl ?_
            refine m_iload dX12_braid_74 rfl ?_
            obtain ⟨h27, e, hF⟩ := hF
            refine m_putf fp_X12_82_11 dX12_braid_76 trivial e ?_
            refine m_ldc dX12_braid_79 kc_X12_98 ?_
            exact m_ireturn dX12_braid_81 trivial hF
        · replace hF := hF.2 c
          refine m_iload dX12_braid_52 rfl ?_
          exact m_ireturn dX12_braid_54 trivial hF
      · replace hF := hF.2 c
        refine m_ldc dX12_braid_30 kc_X12_98 ?_
        exact m_ireturn dX12_braid_32 trivial hF
theorem en_X12_braid {d : Nat} {r_0 : Nat} {x_1 : Int32} {x_2 : Int32} {x_3 : Int32} {x_4 : Int32} {h : mH} {K : Option Value → mH → Prop} (hk : Wm (d + 1) (0, 0) JX12_braid 0 [some (.ref r_0), some (.int x_1), some (.int x_2), some (.int x_3), some (.int x_4), none, none] [] h (fun r h' => h'.1 0 = h.1 0 ∧ K r h')) : Ev (d + 1) (0, 0) MX12_braid [.ref r_0, .int x_1, .int x_2, .int x_3, .int x_4] h K :=
  m_met pn_X12 nl_X12 (fun _ => Nat.le_of_ble_eq_true rfl) hk

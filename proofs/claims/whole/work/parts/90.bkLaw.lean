/-! the law: its blocks -/
theorem kb_31 : (Int8.ofInt 31).toInt32 = 31 := by decide
theorem ki_6 : Int32.ofInt 6 = 6 := by decide
abbrev JL_law : mJ := (RL, cL_law, 4, false, some .boolean)
/-- the script and its length; a number of it -/
def SL (L : Nat) (xs : Nat → Int32) (h : mH) (n : Nat) : Prop := h.1 0 = .inl (9, L, .inl xs) ∧ n = L
def SI (L : Nat) (xs : Nat → Int32) (h : mH) (i x : Int32) : Prop := h.1 0 = .inl (9, L, .inl xs) ∧ ¬ (i < 0 ∨ L ≤ i.toNatClampNeg) ∧ x = xs i.toNatClampNeg
section Script
variable {d : Nat} {b : Nat × Nat} {pc : Nat} {ls : List (Option Value)} {st : List Value} {h : mH} {Q : Option Value → mH → Prop} {L : Nat} {xs : Nat → Int32}
theorem s_alen {n : Nat} (hd : decode JL_law.2.1 pc = .ok (.arraylength, 1)) (e : SL L xs h n) (kk : Wm d b JL_law (pc + 1) ls (.int (nI n) :: st) h Q) : Wm d b JL_law pc ls (.ref 0 :: st) h Q := by
  obtain ⟨e1, rfl⟩ := e
  exact m_slen rfl hd e1 kk
theorem s_iald {i x : Int32} (hd : decode JL_law.2.1 pc = .ok (.iaload, 1)) (e : SI L xs h i x) (kk : Wm d b JL_law (pc + 1) ls (.int x :: st) h Q) : Wm d b JL_law pc ls (.int i :: .ref 0 :: st) h Q := by
  obtain ⟨e1, e2, rfl⟩ := e
  exact m_sld rfl hd e1 e2 kk
end Script
set_option maxRecDepth 100000 in
theorem bk_L_law_0 {d : Nat} {b : Nat × Nat}  {h : mH} {Q : Option Value → mH → Prop} (hF : (1 ≤ b.1 ∧ 8 ≤ b.2 ∧ ∀ h1 : mH, h1 = (m_up h.1 h.2 (.inr (10, [.null, .null, .null, .null, .null, .null, .null, .int 0])), h.2 + 1) → (∃ b4 : Nat × Nat, b4.1 ≤ b.1 - 1 ∧ b4.2 ≤ b.2 - 8 ∧ Ev d b4 MX11_init [.ref h.2] h1 (fun r2 h3 => r2 = none ∧ (1 ≤ b.1 - 1 - b4.1 ∧ 26 ≤ b.2 - 8 - b4.2 ∧ ∀ h5 : mH, h5 = (m_up h3.1 h3.2 (.inr (11, [.int 0, .int 0, .null, .null, .null, .null, .null, .null, .null, .null, .null, .null, .null, .null, .null, .null, .null, .null, .null, .null, .int 0, .int 0, .null, .null, .null, .null])), h3.2 + 1) → (∃ b8 : Nat × Nat, b8.1 ≤ b.1 - 1 - b4.1 - 1 ∧ b8.2 ≤ b.2 - 8 - b4.2 - 26 ∧ Ev d b8 MX12_init [.ref h3.2] h5 (fun r6 h7 => r6 = none ∧ Wm (d + 1) (b.1 - 1 - b4.1 - 1 - b8.1, b.2 - 8 - b4.2 - 26 - b8.2) JL_law 18 [some (.ref 0), some (.ref h.2), some (.ref h3.2), some (.int 0)] [] h7 Q))))))) : Wm (d + 1) b JL_law 0 [some (.ref 0), none, none, none] [] h Q := by
  obtain ⟨e4, e5, hF⟩ := hF
  refine m_newobj (b2 := (b.1 - 1, b.2 - 8)) nw_L_7 dL_law_0 (Nat.le_of_eq (Nat.sub_add_cancel e4)) (Nat.le_of_eq (Nat.sub_add_cancel e5)) ?_
  replace hF := hF _ rfl
  generalize (m_up h.1 h.2 (.inr (10, [.null, .null, .null, .null, .null, .null, .null, .int 0])), h.2 + 1) = h1 at hF ⊢
  refine m_dup dL_law_3 rfl ?_
  obtain ⟨b4, g1, g2, hF⟩ := hF
  refine m_special (as := []) (rest := [.ref h.2]) ci_L_9 dL_law_4 rfl rfl (Nat.le_of_ble_eq_true rfl) (Nat.le_of_eq (Nat.add_sub_cancel' g1)) (Nat.le_of_eq (Nat.add_sub_cancel' g2)) (b1 := b4) (b2 := (b.1 - 1 - b4.1, b.2 - 8 - b4.2)) (Ev.mono hF ?_)
  intro r2 h3 hF
  obtain ⟨rfl, hF⟩ := hF
  refine m_astore_n (ls2 := [some (.ref 0), some (.ref h.2), none, none]) dL_law_7 (by decide) rfl ?_
  obtain ⟨e4, e5, hF⟩ := hF
  refine m_newobj (b2 := (b.1 - 1 - b4.1 - 1, b.2 - 8 - b4.2 - 26)) nw_L_10 dL_law_8 (Nat.le_of_eq (Nat.sub_add_cancel e4)) (Nat.le_of_eq (Nat.sub_add_cancel e5)) ?_
  replace hF := hF _ rfl
  generalize (m_up h3.1 h3.2 (.inr (11, [.int 0, .int 0, .null, .null, .null, .null, .null, .null, .null, .null, .null, .null, .null, .null, .null, .null, .null, .null, .null, .null, .int 0, .int 0, .null, .null, .null, .null])), h3.2 + 1) = h5 at hF ⊢
  refine m_dup dL_law_11 rfl ?_
  obtain ⟨b8, g1, g2, hF⟩ := hF
  refine m_special (as := []) (rest := [.ref h3.2]) ci_L_12 dL_law_12 rfl rfl (Nat.le_of_ble_eq_true rfl) (Nat.le_of_eq (Nat.add_sub_cancel' g1)) (Nat.le_of_eq (Nat.add_sub_cancel' g2)) (b1 := b8) (b2 := (b.1 - 1 - b4.1 - 1 - b8.1, b.2 - 8 - b4.2 - 26 - b8.2)) (Ev.mono hF ?_)
  intro r6 h7 hF
  obtain ⟨rfl, hF⟩ := hF
  refine m_astore_n (ls2 := [some (.ref 0), some (.ref h.2), some (.ref h3.2), none]) dL_law_15 (by decide) rfl ?_
  refine m_iconst dL_law_16 ki_0 ?_
  refine m_istore_n (ls2 := [some (.ref 0), some (.ref h.2), some (.ref h3.2), some (.int 0)]) dL_law_17 (by decide) rfl ?_
  exact hF
set_option maxRecDepth 100000 in
theorem bk_L_law_18 {L : Nat} {xs : Nat → Int32} {d : Nat} {b : Nat × Nat} (r_1 : Nat) (r_2 : Nat) (x_3 : Int32) {h : mH} {Q : Option Value → mH → Prop} (hF : (∃ n1 : Nat, SL L xs h n1 ∧ ((((nI n1) - 6) < x_3 → Q (some (.int 1)) h) ∧ (¬ (((nI n1) - 6) < x_3) → (∃ x2 : Int32, SI L xs h x_3 x2 ∧ (((x2 &&& 31) = 0 → (∃ x3 : Int32, SI L xs h (x_3 + 1) x3 ∧ (∃ x4 : Int32, SI L xs h (x_3 + 2) x4 ∧ (∃ x5 : Int32, SI L xs h (x_3 + 3) x5 ∧ (∃ fs16 : List Value, (h).1 r_1 = .inr (10, fs16) ∧ Ev d (0, 0) MX11_row [.ref r_1, .int x3, .int x4, .int x5] h (fun r6 h7 => ∃ x8 : Int32, r6 = some (.int x8) ∧ (∃ x9 : Int32, SI L xs h7 (x_3 + 1) x9 ∧ (∃ x10 : Int32, SI L xs h7 (x_3 + 2) x10 ∧ (∃ x11 : Int32, SI L xs h7 (x_3 + 3) x11 ∧ (∃ fs15 : List Value, (h7).1 r_2 = .inr (11, fs15) ∧ Ev d (0, 0) MX12_row [.ref r_2, .int x9, .int x10, .int x11] h7 (fun r12 h13 => ∃ x14 : Int32, r12 = some (.int x14) ∧ ((x8 = x14 → Wm (d + 1) b JL_law 18 [some (.ref 0), some (.ref r_1), some (.ref r_2), some (.int (x_3 + 6))] [] h13 Q) ∧ (¬ (x8 = x14) → Q (some (.int 0)) h13))))))))))))) ∧ ((x2 &&& 31) = 1 → (∃ x17 : Int32, SI L xs h (x_3 + 1) x17 ∧ (∃ x18 : Int32, SI L xs h (x_3 + 2) x18 ∧ (∃ x19 : Int32, SI L xs h (x_3 + 3) x19 ∧ (∃ fs30 : List Value, (h).1 r_1 = .inr (10, fs30) ∧ Ev d (0, 0) MX11_set [.ref r_1, .int x17, .int x18, .int x19] h (fun r20 h21 => ∃ x22 : Int32, r20 = some (.int x22) ∧ (∃ x23 : Int32, SI L xs h21 (x_3 + 1) x23 ∧ (∃ x24 : Int32, SI L xs h21 (x_3 + 2) x24 ∧ (∃ x25 : Int32, SI L xs h21 (x_3 + 3) x25 ∧ (∃ fs29 : List Value, (h21).1 r_2 = .inr (11, fs29) ∧ Ev d (0, 0) MX12_set [.ref r_2, .int x23, .int x24, .int x25] h21 (fun r26 h27 => ∃ x28 : Int32, r26 = some (.int x28) ∧ ((x22 = x28 → Wm (d + 1) b JL_law 18 [some (.ref 0), some (.ref r_1), some (.ref r_2), some (.int (x_3 + 6))] [] h27 Q) ∧ (¬ (x22 = x28) → Q (some (.int 0)) h27))))))))))))) ∧ ((x2 &&& 31) = 2 → (∃ x31 : Int32, SI L xs h (x_3 + 1) x31 ∧ (∃ x32 : Int32, SI L xs h (x_3 + 2) x32 ∧ (∃ x33 : Int32, SI L xs h (x_3 + 3) x33 ∧ (∃ x34 : Int32, SI L xs h (x_3 + 4) x34 ∧ (∃ x35 : Int32, SI L xs h (x_3 + 5) x35 ∧ (∃ fs48 : List Value, (h).1 r_1 = .inr (10, fs48) ∧ Ev d (0, 0) MX11_copy [.ref r_1, .int x31, .int x32, .int x33, .int x34, .int x35] h (fun r36 h37 => ∃ x38 : Int32, r36 = some (.int x38) ∧ (∃ x39 : Int32, SI L xs h37 (x_3 + 1) x39 ∧ (∃ x40 : Int32, SI L xs h37 (x_3 + 2) x40 ∧ (∃ x41 : Int32, SI L xs h37 (x_3 + 3) x41 ∧ (∃ x42 : Int32, SI L xs h37 (x_3 + 4) x42 ∧ (∃ x43 : Int32, SI L xs h37 (x_3 + 5) x43 ∧ (∃ fs47 : List Value, (h37).1 r_2 = .inr (11, fs47) ∧ Ev d (0, 0) MX12_copy [.ref r_2, .int x39, .int x40, .int x41, .int x42, .int x43] h37 (fun r44 h45 => ∃ x46 : Int32, r44 = some (.int x46) ∧ ((x38 = x46 → Wm (d + 1) b JL_law 18 [some (.ref 0), some (.ref r_1), some (.ref r_2), some (.int (x_3 + 6))] [] h45 Q) ∧ (¬ (x38 = x46) → Q (some (.int 0)) h45))))))))))))))))) ∧ ((x2 &&& 31) = 3 → (∃ x49 : Int32, SI L xs h (x_3 + 1) x49 ∧ (∃ fs58 : List Value, (h).1 r_1 = .inr (10, fs58) ∧ Ev d (0, 0) MX11_drop [.ref r_1, .int x49] h (fun r50 h51 => ∃ x52 : Int32, r50 = some (.int x52) ∧ (∃ x53 : Int32, SI L xs h51 (x_3 + 1) x53 ∧ (∃ fs57 : List Value, (h51).1 r_2 = .inr (11, fs57) ∧ Ev d (0, 0) MX12_drop [.ref r_2, .int x53] h51 (fun r54 h55 => ∃ x56 : Int32, r54 = some (.int x56) ∧ ((x52 = x56 → Wm (d + 1) b JL_law 18 [some (.ref 0), some (.ref r_1), some (.ref r_2), some (.int (x_3 + 6))] [] h55 Q) ∧ (¬ (x52 = x56) → Q (some (.int 0)) h55))))))))) ∧ ((x2 &&& 31) = 4 → (∃ x59 : Int32, SI L xs h (x_3 + 1) x59 ∧ (∃ x60 : Int32, SI L xs h (x_3 + 2) x60 ∧ (∃ x61 : Int32, SI L xs h (x_3 + 3) x61 ∧ (∃ x62 : Int32, SI L xs h (x_3 + 4) x62 ∧ (∃ x63 : Int32, SI L xs h (x_3 + 5) x63 ∧ (∃ b67 : Nat × Nat, b67.1 ≤ b.1 ∧ b67.2 ≤ b.2 ∧ (∃ fs77 : List Value, (h).1 r_1 = .inr (10, fs77) ∧ Ev d b67 MX11_cover [.ref r_1, .int x59, .int x60, .int x61, .int x62, .int x63] h (fun r64 h65 => ∃ x66 : Int32, r64 = some (.int x66) ∧ (∃ x68 : Int32, SI L xs h65 (x_3 + 1) x68 ∧ (∃ x69 : Int32, SI L xs h65 (x_3 + 2) x69 ∧ (∃ x70 : Int32, SI L xs h65 (x_3 + 3) x70 ∧ (∃ x71 : Int32, SI L xs h65 (x_3 + 4) x71 ∧ (∃ x72 : Int32, SI L xs h65 (x_3 + 5) x72 ∧ (∃ fs76 : List Value, (h65).1 r_2 = .inr (11, fs76) ∧ Ev d (0, 0) MX12_cover [.ref r_2, .int x68, .int x69, .int x70, .int x71, .int x72] h65 (fun r73 h74 => ∃ x75 : Int32, r73 = some (.int x75) ∧ ((x66 = x75 → Wm (d + 1) (b.1 - b67.1, b.2 - b67.2) JL_law 18 [some (.ref 0), some (.ref r_1), some (.ref r_2), some (.int (x_3 + 6))] [] h74 Q) ∧ (¬ (x66 = x75) → Q (some (.int 0)) h74)))))))))))))))))) ∧ ((x2 &&& 31) = 5 → (∃ x78 : Int32, SI L xs h (x_3 + 1) x78 ∧ (∃ x79 : Int32, SI L xs h (x_3 + 2) x79 ∧ (∃ x80 : Int32, SI L xs h (x_3 + 3) x80 ∧ (∃ b84 : Nat × Nat, b84.1 ≤ b.1 ∧ b84.2 ≤ b.2 ∧ (∃ fs92 : List Value, (h).1 r_1 = .inr (10, fs92) ∧ Ev d b84 MX11_part [.ref r_1, .int x78, .int x79, .int x80] h (fun r81 h82 => ∃ x83 : Int32, r81 = some (.int x83) ∧ (∃ x85 : Int32, SI L xs h82 (x_3 + 1) x85 ∧ (∃ x86 : Int32, SI L xs h82 (x_3 + 2) x86 ∧ (∃ x87 : Int32, SI L xs h82 (x_3 + 3) x87 ∧ (∃ fs91 : List Value, (h82).1 r_2 = .inr (11, fs91) ∧ Ev d (0, 0) MX12_part [.ref r_2, .int x85, .int x86, .int x87] h82 (fun r88 h89 => ∃ x90 : Int32, r88 = some (.int x90) ∧ ((x83 = x90 → Wm (d + 1) (b.1 - b84.1, b.2 - b84.2) JL_law 18 [some (.ref 0), some (.ref r_1), some (.ref r_2), some (.int (x_3 + 6))] [] h89 Q) ∧ (¬ (x83 = x90) → Q (some (.int 0)) h89)))))))))))))) ∧ ((x2 &&& 31) = 6 → (∃ x93 : Int32, SI L xs h (x_3 + 1) x93 ∧ (∃ x94 : Int32, SI L xs h (x_3 + 2) x94 ∧ (∃ b98 : Nat × Nat, b98.1 ≤ b.1 ∧ b98.2 ≤ b.2 ∧ (∃ fs105 : List Value, (h).1 r_1 = .inr (10, fs105) ∧ Ev d b98 MX11_name [.ref r_1, .int x93, .int x94] h (fun r95 h96 => ∃ x97 : Int32, r95 = some (.int x97) ∧ (∃ x99 : Int32, SI L xs h96 (x_3 + 1) x99 ∧ (∃ x100 : Int32, SI L xs h96 (x_3 + 2) x100 ∧ (∃ fs104 : List Value, (h96).1 r_2 = .inr (11, fs104) ∧ Ev d (0, 0) MX12_name [.ref r_2, .int x99, .int x100] h96 (fun r101 h102 => ∃ x103 : Int32, r101 = some (.int x103) ∧ ((x97 = x103 → Wm (d + 1) (b.1 - b98.1, b.2 - b98.2) JL_law 18 [some (.ref 0), some (.ref r_1), some (.ref r_2), some (.int (x_3 + 6))] [] h102 Q) ∧ (¬ (x97 = x103) → Q (some (.int 0)) h102)))))))))))) ∧ ((x2 &&& 31) = 7 → (∃ x106 : Int32, SI L xs h (x_3 + 1) x106 ∧ (∃ x107 : Int32, SI L xs h (x_3 + 2) x107 ∧ (∃ x108 : Int32, SI L xs h (x_3 + 3) x108 ∧ (∃ x109 : Int32, SI L xs h (x_3 + 4) x109 ∧ (∃ b113 : Nat × Nat, b113.1 ≤ b.1 ∧ b113.2 ≤ b.2 ∧ (∃ fs122 : List Value, (h).1 r_1 = .inr (10, fs122) ∧ Ev d b113 MX11_between [.ref r_1, .int x106, .int x107, .int x108, .int x109] h (fun r110 h111 => ∃ x112 : Int32, r110 = some (.int x112) ∧ (∃ x114 : Int32, SI L xs h111 (x_3 + 1) x114 ∧ (∃ x115 : Int32, SI L xs h111 (x_3 + 2) x115 ∧ (∃ x116 : Int32, SI L xs h111 (x_3 + 3) x116 ∧ (∃ x117 : Int32, SI L xs h111 (x_3 + 4) x117 ∧ (∃ fs121 : List Value, (h111).1 r_2 = .inr (11, fs121) ∧ Ev d (0, 0) MX12_between [.ref r_2, .int x114, .int x115, .int x116, .int x117] h111 (fun r118 h119 => ∃ x120 : Int32, r118 = some (.int x120) ∧ ((x112 = x120 → Wm (d + 1) (b.1 - b113.1, b.2 - b113.2) JL_law 18 [some (.ref 0), some (.ref r_1), some (.ref r_2), some (.int (x_3 + 6))] [] h119 Q) ∧ (¬ (x112 = x120) → Q (some (.int 0)) h119)))))))))))))))) ∧ ((x2 &&& 31) = 8 → (∃ x123 : Int32, SI L xs h (x_3 + 1) x123 ∧ (∃ x124 : Int32, SI L xs h (x_3 + 2) x124 ∧ (∃ x125 : Int32, SI L xs h (x_3 + 3) x125 ∧ (∃ x126 : Int32, SI L xs h (x_3 + 4) x126 ∧ (∃ b130 : Nat × Nat, b130.1 ≤ b.1 ∧ b130.2 ≤ b.2 ∧ (∃ fs139 : List Value, (h).1 r_1 = .inr (10, fs139) ∧ Ev d b130 MX11_braid [.ref r_1, .int x123, .int x124, .int x125, .int x126] h (fun r127 h128 => ∃ x129 : Int32, r127 = some (.int x129) ∧ (∃ x131 : Int32, SI L xs h128 (x_3 + 1) x131 ∧ (∃ x132 : Int32, SI L xs h128 (x_3 + 2) x132 ∧ (∃ x133 : Int32, SI L xs h128 (x_3 + 3) x133 ∧ (∃ x134 : Int32, SI L xs h128 (x_3 + 4) x134 ∧ (∃ fs138 : List Value, (h128).1 r_2 = .inr (11, fs138) ∧ Ev d (0, 0) MX12_braid [.ref r_2, .int x131, .int x132, .int x133, .int x134] h128 (fun r135 h136 => ∃ x137 : Int32, r135 = some (.int x137) ∧ ((x129 = x137 → Wm (d + 1) (b.1 - b130.1, b.2 - b130.2) JL_law 18 [some (.ref 0), some (.ref r_1), some (.ref r_2), some (.int (x_3 + 6))] [] h136 Q) ∧ (¬ (x129 = x137) → Q (some (.int 0)) h136)))))))))))))))) ∧ ((x2 &&& 31) = 9 → (∃ x140 : Int32, SI L xs h (x_3 + 1) x140 ∧ (∃ x141 : Int32, SI L xs h (x_3 + 2) x141 ∧ (∃ x142 : Int32, SI L xs h (x_3 + 3) x142 ∧ (∃ b146 : Nat × Nat, b146.1 ≤ b.1 ∧ b146.2 ≤ b.2 ∧ (∃ fs154 : List Value, (h).1 r_1 = .inr (10, fs154) ∧ Ev d b146 MX11_turn [.ref r_1, .int x140, .int x141, .int x142] h (fun r143 h144 => ∃ x145 : Int32, r143 = some (.int x145) ∧ (∃ x147 : Int32, SI L xs h144 (x_3 + 1) x147 ∧ (∃ x148 : Int32, SI L xs h144 (x_3 + 2) x148 ∧ (∃ x149 : Int32, SI L xs h144 (x_3 + 3) x149 ∧ (∃ fs153 : List Value, (h144).1 r_2 = .inr (11, fs153) ∧ Ev d (0, 0) MX12_turn [.ref r_2, .int x147, .int x148, .int x149] h144 (fun r150 h151 => ∃ x152 : Int32, r150 = some (.int x152) ∧ ((x145 = x152 → Wm (d + 1) (b.1 - b146.1, b.2 - b146.2) JL_law 18 [some (.ref 0), some (.ref r_1), some (.ref r_2), some (.int (x_3 + 6))] [] h151 Q) ∧ (¬ (x145 = x152) → Q (some (.int 0)) h151)))))))))))))) ∧ ((x2 &&& 31) = 10 → (∃ x155 : Int32, SI L xs h (x_3 + 1) x155 ∧ (∃ x156 : Int32, SI L xs h (x_3 + 2) x156 ∧ (∃ x157 : Int32, SI L xs h (x_3 + 3) x157 ∧ (∃ b161 : Nat × Nat, b161.1 ≤ b.1 ∧ b161.2 ≤ b.2 ∧ (∃ fs169 : List Value, (h).1 r_1 = .inr (10, fs169) ∧ Ev d b161 MX11_over [.ref r_1, .int x155, .int x156, .int x157] h (fun r158 h159 => ∃ x160 : Int32, r158 = some (.int x160) ∧ (∃ x162 : Int32, SI L xs h159 (x_3 + 1) x162 ∧ (∃ x163 : Int32, SI L xs h159 (x_3 + 2) x163 ∧ (∃ x164 : Int32, SI L xs h159 (x_3 + 3) x164 ∧ (∃ fs168 : List Value, (h159).1 r_2 = .inr (11, fs168) ∧ Ev d (0, 0) MX12_over [.ref r_2, .int x162, .int x163, .int x164] h159 (fun r165 h166 => ∃ x167 : Int32, r165 = some (.int x167) ∧ ((x160 = x167 → Wm (d + 1) (b.1 - b161.1, b.2 - b161.2) JL_law 18 [some (.ref 0), some (.ref r_1), some (.ref r_2), some (.int (x_3 + 6))] [] h166 Q) ∧ (¬ (x160 = x167) → Q (some (.int 0)) h166)))))))))))))) ∧ ((x2 &&& 31) = 11 → (∃ x170 : Int32, SI L xs h (x_3 + 1) x170 ∧ (∃ fs179 : List Value, (h).1 r_1 = .inr (10, fs179) ∧ Ev d (0, 0) MX11_clear [.ref r_1, .int x170] h (fun r171 h172 => ∃ x173 : Int32, r171 = some (.int x173) ∧ (∃ x174 : Int32, SI L xs h172 (x_3 + 1) x174 ∧ (∃ fs178 : List Value, (h172).1 r_2 = .inr (11, fs178) ∧ Ev d (0, 0) MX12_clear [.ref r_2, .int x174] h172 (fun r175 h176 => ∃ x177 : Int32, r175 = some (.int x177) ∧ ((x173 = x177 → Wm (d + 1) b JL_law 18 [some (.ref 0), some (.ref r_1), some (.ref r_2), some (.int (x_3 + 6))] [] h176 Q) ∧ (¬ (x173 = x177) → Q (some (.int 0)) h176))))))))) ∧ ((x2 &&& 31) = 12 → (∃ x180 : Int32, SI L xs h (x_3 + 1) x180 ∧ (∃ x181 : Int32, SI L xs h (x_3 + 2) x181 ∧ (∃ fs191 : List Value, (h).1 r_1 = .inr (10, fs191) ∧ Ev d (0, 0) MX11_told [.ref r_1, .int x180, .int x181] h (fun r182 h183 => ∃ x184 : Int32, r182 = some (.int x184) ∧ (∃ x185 : Int32, SI L xs h183 (x_3 + 1) x185 ∧ (∃ x186 : Int32, SI L xs h183 (x_3 + 2) x186 ∧ (∃ fs190 : List Value, (h183).1 r_2 = .inr (11, fs190) ∧ Ev d (0, 0) MX12_told [.ref r_2, .int x185, .int x186] h183 (fun r187 h188 => ∃ x189 : Int32, r187 = some (.int x189) ∧ ((x184 = x189 → Wm (d + 1) b JL_law 18 [some (.ref 0), some (.ref r_1), some (.ref r_2), some (.int (x_3 + 6))] [] h188 Q) ∧ (¬ (x184 = x189) → Q (some (.int 0)) h188))))))))))) ∧ ((x2 &&& 31) = 13 → (∃ x192 : Int32, SI L xs h (x_3 + 1) x192 ∧ (∃ x193 : Int32, SI L xs h (x_3 + 2) x193 ∧ (∃ x194 : Int32, SI L xs h (x_3 + 3) x194 ∧ (∃ fs205 : List Value, (h).1 r_1 = .inr (10, fs205) ∧ Ev d (0, 0) MX11_leads [.ref r_1, .int x192, .int x193, .int x194] h (fun r195 h196 => ∃ x197 : Int32, r195 = some (.int x197) ∧ (∃ x198 : Int32, SI L xs h196 (x_3 + 1) x198 ∧ (∃ x199 : Int32, SI L xs h196 (x_3 + 2) x199 ∧ (∃ x200 : Int32, SI L xs h196 (x_3 + 3) x200 ∧ (∃ fs204 : List Value, (h196).1 r_2 = .inr (11, fs204) ∧ Ev d (0, 0) MX12_leads [.ref r_2, .int x198, .int x199, .int x200] h196 (fun r201 h202 => ∃ x203 : Int32, r201 = some (.int x203) ∧ ((x197 = x203 → Wm (d + 1) b JL_law 18 [some (.ref 0), some (.ref r_1), some (.ref r_2), some (.int (x_3 + 6))] [] h202 Q) ∧ (¬ (x197 = x203) → Q (some (.int 0)) h202))))))))))))) ∧ ((x2 &&& 31) = 14 → (∃ x206 : Int32, SI L xs h (x_3 + 1) x206 ∧ (∃ x207 : Int32, SI L xs h (x_3 + 2) x207 ∧ (∃ x208 : Int32, SI L xs h (x_3 + 3) x208 ∧ (∃ fs219 : List Value, (h).1 r_1 = .inr (10, fs219) ∧ Ev d (0, 0) MX11_shape [.ref r_1, .int x206, .int x207, .int x208] h (fun r209 h210 => ∃ x211 : Int32, r209 = some (.int x211) ∧ (∃ x212 : Int32, SI L xs h210 (x_3 + 1) x212 ∧ (∃ x213 : Int32, SI L xs h210 (x_3 + 2) x213 ∧ (∃ x214 : Int32, SI L xs h210 (x_3 + 3) x214 ∧ (∃ fs218 : List Value, (h210).1 r_2 = .inr (11, fs218) ∧ Ev d (0, 0) MX12_shape [.ref r_2, .int x212, .int x213, .int x214] h210 (fun r215 h216 => ∃ x217 : Int32, r215 = some (.int x217) ∧ ((x211 = x217 → Wm (d + 1) b JL_law 18 [some (.ref 0), some (.ref r_1), some (.ref r_2), some (.int (x_3 + 6))] [] h216 Q) ∧ (¬ (x211 = x217) → Q (some (.int 0)) h216))))))))))))) ∧ ((x2 &&& 31) = 15 → (∃ x220 : Int32, SI L xs h (x_3 + 1) x220 ∧ (∃ x221 : Int32, SI L xs h (x_3 + 2) x221 ∧ (∃ x222 : Int32, SI L xs h (x_3 + 3) x222 ∧ (∃ x223 : Int32, SI L xs h (x_3 + 4) x223 ∧ (∃ fs235 : List Value, (h).1 r_1 = .inr (10, fs235) ∧ Ev d (0, 0) MX11_block [.ref r_1, .int x220, .int x221, .int x222, .int x223] h (fun r224 h225 => ∃ x226 : Int32, r224 = some (.int x226) ∧ (∃ x227 : Int32, SI L xs h225 (x_3 + 1) x227 ∧ (∃ x228 : Int32, SI L xs h225 (x_3 + 2) x228 ∧ (∃ x229 : Int32, SI L xs h225 (x_3 + 3) x229 ∧ (∃ x230 : Int32, SI L xs h225 (x_3 + 4) x230 ∧ (∃ fs234 : List Value, (h225).1 r_2 = .inr (11, fs234) ∧ Ev d (0, 0) MX12_block [.ref r_2, .int x227, .int x228, .int x229, .int x230] h225 (fun r231 h232 => ∃ x233 : Int32, r231 = some (.int x233) ∧ ((x226 = x233 → Wm (d + 1) b JL_law 18 [some (.ref 0), some (.ref r_1), some (.ref r_2), some (.int (x_3 + 6))] [] h232 Q) ∧ (¬ (x226 = x233) → Q (some (.int 0)) h232))))))))))))))) ∧ ((x2 &&& 31) = 16 → (∃ x236 : Int32, SI L xs h (x_3 + 1) x236 ∧ (∃ x237 : Int32, SI L xs h (x_3 + 2) x237 ∧ (∃ b241 : Nat × Nat, b241.1 ≤ b.1 ∧ b241.2 ≤ b.2 ∧ (∃ fs248 : List Value, (h).1 r_1 = .inr (10, fs248) ∧ Ev d b241 MX11_same [.ref r_1, .int x236, .int x237] h (fun r238 h239 => ∃ x240 : Int32, r238 = some (.int x240) ∧ (∃ x242 : Int32, SI L xs h239 (x_3 + 1) x242 ∧ (∃ x243 : Int32, SI L xs h239 (x_3 + 2) x243 ∧ (∃ fs247 : List Value, (h239).1 r_2 = .inr (11, fs247) ∧ Ev d (0, 0) MX12_same [.ref r_2, .int x242, .int x243] h239 (fun r244 h245 => ∃ x246 : Int32, r244 = some (.int x246) ∧ ((x240 = x246 → Wm (d + 1) (b.1 - b241.1, b.2 - b241.2) JL_law 18 [some (.ref 0), some (.ref r_1), some (.ref r_2), some (.int (x_3 + 6))] [] h245 Q) ∧ (¬ (x240 = x246) → Q (some (.int 0)) h245)))))))))))) ∧ ((x2 &&& 31) = 17 → (∃ x249 : Int32, SI L xs h (x_3 + 1) x249 ∧ (∃ b253 : Nat × Nat, b253.1 ≤ b.1 ∧ b253.2 ≤ b.2 ∧ (∃ fs259 : List Value, (h).1 r_1 = .inr (10, fs259) ∧ Ev d b253 MX11_ring [.ref r_1, .int x249] h (fun r250 h251 => ∃ x252 : Int32, r250 = some (.int x252) ∧ (∃ x254 : Int32, SI L xs h251 (x_3 + 1) x254 ∧ (∃ fs258 : List Value, (h251).1 r_2 = .inr (11, fs258) ∧ Ev d (0, 0) MX12_ring [.ref r_2, .int x254] h251 (fun r255 h256 => ∃ x257 : Int32, r255 = some (.int x257) ∧ ((x252 = x257 → Wm (d + 1) (b.1 - b253.1, b.2 - b253.2) JL_law 18 [some (.ref 0), some (.ref r_1), some (.ref r_2), some (.int (x_3 + 6))] [] h256 Q) ∧ (¬ (x252 = x257) → Q (some (.int 0)) h256)))))))))) ∧ ((x2 &&& 31) = 18 → (∃ x260 : Int32, SI L xs h (x_3 + 1) x260 ∧ (∃ x261 : Int32, SI L xs h (x_3 + 2) x261 ∧ (∃ x262 : Int32, SI L xs h (x_3 + 3) x262 ∧ (∃ x263 : Int32, SI L xs h (x_3 + 4) x263 ∧ (∃ x264 : Int32, SI L xs h (x_3 + 5) x264 ∧ (∃ fs277 : List Value, (h).1 r_1 = .inr (10, fs277) ∧ Ev d (0, 0) MX11_lift [.ref r_1, .int x260, .int x261, .int x262, .int x263, .int x264] h (fun r265 h266 => ∃ x267 : Int32, r265 = some (.int x267) ∧ (∃ x268 : Int32, SI L xs h266 (x_3 + 1) x268 ∧ (∃ x269 : Int32, SI L xs h266 (x_3 + 2) x269 ∧ (∃ x270 : Int32, SI L xs h266 (x_3 + 3) x270 ∧ (∃ x271 : Int32, SI L xs h266 (x_3 + 4) x271 ∧ (∃ x272 : Int32, SI L xs h266 (x_3 + 5) x272 ∧ (∃ fs276 : List Value, (h266).1 r_2 = .inr (11, fs276) ∧ Ev d (0, 0) MX12_lift [.ref r_2, .int x268, .int x269, .int x270, .int x271, .int x272] h266 (fun r273 h274 => ∃ x275 : Int32, r273 = some (.int x275) ∧ ((x267 = x275 → Wm (d + 1) b JL_law 18 [some (.ref 0), some (.ref r_1), some (.ref r_2), some (.int (x_3 + 6))] [] h274 Q) ∧ (¬ (x267 = x275) → Q (some (.int 0)) h274))))))))))))))))) ∧ ((x2 &&& 31) = 19 → (∃ x278 : Int32, SI L xs h (x_3 + 1) x278 ∧ (∃ fs287 : List Value, (h).1 r_1 = .inr (10, fs287) ∧ Ev d (0, 0) MX11_kind [.ref r_1, .int x278] h (fun r279 h280 => ∃ x281 : Int32, r279 = some (.int x281) ∧ (∃ x282 : Int32, SI L xs h280 (x_3 + 1) x282 ∧ (∃ fs286 : List Value, (h280).1 r_2 = .inr (11, fs286) ∧ Ev d (0, 0) MX12_kind [.ref r_2, .int x282] h280 (fun r283 h284 => ∃ x285 : Int32, r283 = some (.int x285) ∧ ((x281 = x285 → Wm (d + 1) b JL_law 18 [some (.ref 0), some (.ref r_1), some (.ref r_2), some (.int (x_3 + 6))] [] h284 Q) ∧ (¬ (x281 = x285) → Q (some (.int 0)) h284))))))))) ∧ ((x2 &&& 31) = 20 → (∃ x288 : Int32, SI L xs h (x_3 + 1) x288 ∧ (∃ x289 : Int32, SI L xs h (x_3 + 2) x289 ∧ (∃ fs299 : List Value, (h).1 r_1 = .inr (10, fs299) ∧ Ev d (0, 0) MX11_is [.ref r_1, .int x288, .int x289] h (fun r290 h291 => ∃ x292 : Int32, r290 = some (.int x292) ∧ (∃ x293 : Int32, SI L xs h291 (x_3 + 1) x293 ∧ (∃ x294 : Int32, SI L xs h291 (x_3 + 2) x294 ∧ (∃ fs298 : List Value, (h291).1 r_2 = .inr (11, fs298) ∧ Ev d (0, 0) MX12_is [.ref r_2, .int x293, .int x294] h291 (fun r295 h296 => ∃ x297 : Int32, r295 = some (.int x297) ∧ ((x292 = x297 → Wm (d + 1) b JL_law 18 [some (.ref 0), some (.ref r_1), some (.ref r_2), some (.int (x_3 + 6))] [] h296 Q) ∧ (¬ (x292 = x297) → Q (some (.int 0)) h296))))))))))) ∧ ((x2 &&& 31) = 21 → (∃ x300 : Int32, SI L xs h (x_3 + 1) x300 ∧ (∃ x301 : Int32, SI L xs h (x_3 + 2) x301 ∧ (∃ fs311 : List Value, (h).1 r_1 = .inr (10, fs311) ∧ Ev d (0, 0) MX11_as [.ref r_1, .int x300, .int x301] h (fun r302 h303 => ∃ x304 : Int32, r302 = some (.int x304) ∧ (∃ x305 : Int32, SI L xs h303 (x_3 + 1) x305 ∧ (∃ x306 : Int32, SI L xs h303 (x_3 + 2) x306 ∧ (∃ fs310 : List Value, (h303).1 r_2 = .inr (11, fs310) ∧ Ev d (0, 0) MX12_as [.ref r_2, .int x305, .int x306] h303 (fun r307 h308 => ∃ x309 : Int32, r307 = some (.int x309) ∧ ((x304 = x309 → Wm (d + 1) b JL_law 18 [some (.ref 0), some (.ref r_1), some (.ref r_2), some (.int (x_3 + 6))] [] h308 Q) ∧ (¬ (x304 = x309) → Q (some (.int 0)) h308))))))))))) ∧ ((x2 &&& 31) = 22 → (∃ x312 : Int32, SI L xs h (x_3 + 1) x312 ∧ (∃ x313 : Int32, SI L xs h (x_3 + 2) x313 ∧ (∃ fs323 : List Value, (h).1 r_1 = .inr (10, fs323) ∧ Ev d (0, 0) MX11_ask [.ref r_1, .int x312, .int x313] h (fun r314 h315 => ∃ x316 : Int32, r314 = some (.int x316) ∧ (∃ x317 : Int32, SI L xs h315 (x_3 + 1) x317 ∧ (∃ x318 : Int32, SI L xs h315 (x_3 + 2) x318 ∧ (∃ fs322 : List Value, (h315).1 r_2 = .inr (11, fs322) ∧ Ev d (0, 0) MX12_ask [.ref r_2, .int x317, .int x318] h315 (fun r319 h320 => ∃ x321 : Int32, r319 = some (.int x321) ∧ ((x316 = x321 → Wm (d + 1) b JL_law 18 [some (.ref 0), some (.ref r_1), some (.ref r_2), some (.int (x_3 + 6))] [] h320 Q) ∧ (¬ (x316 = x321) → Q (some (.int 0)) h320))))))))))) ∧ ((x2 &&& 31) = 23 → (∃ x324 : Int32, SI L xs h (x_3 + 1) x324 ∧ (∃ fs333 : List Value, (h).1 r_1 = .inr (10, fs333) ∧ Ev d (0, 0) MX11_trace [.ref r_1, .int x324] h (fun r325 h326 => ∃ x327 : Int32, r325 = some (.int x327) ∧ (∃ x328 : Int32, SI L xs h326 (x_3 + 1) x328 ∧ (∃ fs332 : List Value, (h326).1 r_2 = .inr (11, fs332) ∧ Ev d (0, 0) MX12_trace [.ref r_2, .int x328] h326 (fun r329 h330 => ∃ x331 : Int32, r329 = some (.int x331) ∧ ((x327 = x331 → Wm (d + 1) b JL_law 18 [some (.ref 0), some (.ref r_1), some (.ref r_2), some (.int (x_3 + 6))] [] h330 Q) ∧ (¬ (x327 = x331) → Q (some (.int 0)) h330))))))))) ∧ ((x2 &&& 31) = 24 → (∃ x334 : Int32, SI L xs h (x_3 + 1) x334 ∧ (∃ x335 : Int32, SI L xs h (x_3 + 2) x335 ∧ (∃ x336 : Int32, SI L xs h (x_3 + 3) x336 ∧ (∃ fs347 : List Value, (h).1 r_1 = .inr (10, fs347) ∧ Ev d (0, 0) MX11_joins [.ref r_1, .int x334, .int x335, .int x336] h (fun r337 h338 => ∃ y339 : Int64, r337 = some (.long y339) ∧ (∃ x340 : Int32, SI L xs h338 (x_3 + 1) x340 ∧ (∃ x341 : Int32, SI L xs h338 (x_3 + 2) x341 ∧ (∃ x342 : Int32, SI L xs h338 (x_3 + 3) x342 ∧ (∃ fs346 : List Value, (h338).1 r_2 = .inr (11, fs346) ∧ Ev d (0, 0) MX12_joins [.ref r_2, .int x340, .int x341, .int x342] h338 (fun r343 h344 => ∃ y345 : Int64, r343 = some (.long y345) ∧ (((lg_cmp y339 y345) = 0 → Wm (d + 1) b JL_law 18 [some (.ref 0), some (.ref r_1), some (.ref r_2), some (.int (x_3 + 6))] [] h344 Q) ∧ (¬ ((lg_cmp y339 y345) = 0) → Q (some (.int 0)) h344))))))))))))) ∧ ((x2 &&& 31) = 25 → (∃ x348 : Int32, SI L xs h (x_3 + 1) x348 ∧ (∃ x349 : Int32, SI L xs h (x_3 + 2) x349 ∧ (∃ x350 : Int32, SI L xs h (x_3 + 3) x350 ∧ (∃ fs361 : List Value, (h).1 r_1 = .inr (10, fs361) ∧ Ev d (0, 0) MX11_shapes [.ref r_1, .int x348, .int x349, .int x350] h (fun r351 h352 => ∃ x353 : Int32, r351 = some (.int x353) ∧ (∃ x354 : Int32, SI L xs h352 (x_3 + 1) x354 ∧ (∃ x355 : Int32, SI L xs h352 (x_3 + 2) x355 ∧ (∃ x356 : Int32, SI L xs h352 (x_3 + 3) x356 ∧ (∃ fs360 : List Value, (h352).1 r_2 = .inr (11, fs360) ∧ Ev d (0, 0) MX12_shapes [.ref r_2, .int x354, .int x355, .int x356] h352 (fun r357 h358 => ∃ x359 : Int32, r357 = some (.int x359) ∧ ((x353 = x359 → Wm (d + 1) b JL_law 18 [some (.ref 0), some (.ref r_1), some (.ref r_2), some (.int (x_3 + 6))] [] h358 Q) ∧ (¬ (x353 = x359) → Q (some (.int 0)) h358))))))))))))) ∧ ((x2 &&& 31) = 26 → (∃ x362 : Int32, SI L xs h (x_3 + 1) x362 ∧ (∃ fs371 : List Value, (h).1 r_1 = .inr (10, fs371) ∧ Ev d (0, 0) MX11_count [.ref r_1, .int x362] h (fun r363 h364 => ∃ x365 : Int32, r363 = some (.int x365) ∧ (∃ x366 : Int32, SI L xs h364 (x_3 + 1) x366 ∧ (∃ fs370 : List Value, (h364).1 r_2 = .inr (11, fs370) ∧ Ev d (0, 0) MX12_count [.ref r_2, .int x366] h364 (fun r367 h368 => ∃ x369 : Int32, r367 = some (.int x369) ∧ ((x365 = x369 → Wm (d + 1) b JL_law 18 [some (.ref 0), some (.ref r_1), some (.ref r_2), some (.int (x_3 + 6))] [] h368 Q) ∧ (¬ (x365 = x369) → Q (some (.int 0)) h368))))))))) ∧ ((x2 &&& 31) = 27 → (∃ fs379 : List Value, (h).1 r_1 = .inr (10, fs379) ∧ Ev d (0, 0) MX11_status [.ref r_1] h (fun r372 h373 => ∃ x374 : Int32, r372 = some (.int x374) ∧ (∃ fs378 : List Value, (h373).1 r_2 = .inr (11, fs378) ∧ Ev d (0, 0) MX12_status [.ref r_2] h373 (fun r375 h376 => ∃ x377 : Int32, r375 = some (.int x377) ∧ ((x374 = x377 → Wm (d + 1) b JL_law 18 [some (.ref 0), some (.ref r_1), some (.ref r_2), some (.int (x_3 + 6))] [] h376 Q) ∧ (¬ (x374 = x377) → Q (some (.int 0)) h376))))))) ∧ (¬ (x2 &&& 31) = 0 → ¬ (x2 &&& 31) = 1 → ¬ (x2 &&& 31) = 2 → ¬ (x2 &&& 31) = 3 → ¬ (x2 &&& 31) = 4 → ¬ (x2 &&& 31) = 5 → ¬ (x2 &&& 31) = 6 → ¬ (x2 &&& 31) = 7 → ¬ (x2 &&& 31) = 8 → ¬ (x2 &&& 31) = 9 → ¬ (x2 &&& 31) = 10 → ¬ (x2 &&& 31) = 11 → ¬ (x2 &&& 31) = 12 → ¬ (x2 &&& 31) = 13 → ¬ (x2 &&& 31) = 14 → ¬ (x2 &&& 31) = 15 → ¬ (x2 &&& 31) = 16 → ¬ (x2 &&& 31) = 17 → ¬ (x2 &&& 31) = 18 → ¬ (x2 &&& 31) = 19 → ¬ (x2 &&& 31) = 20 → ¬ (x2 &&& 31) = 21 → ¬ (x2 &&& 31) = 22 → ¬ (x2 &&& 31) = 23 → ¬ (x2 &&& 31) = 24 → ¬ (x2 &&& 31) = 25 → ¬ (x2 &&& 31) = 26 → ¬ (x2 &&& 31) = 27 → Wm (d + 1) b JL_law 18 [some (.ref 0), some (.ref r_1), some (.ref r_2), some (.int (x_3 + 6))] [] h Q))))))) : Wm (d + 1) b JL_law 18 [some (.ref 0), some (.ref r_1), some (.ref r_2), some (.int x_3)] [] h Q := by
  refine m_iload_n dL_law_18 rfl ?_
  refine m_aload_n dL_law_19 rfl ?_
  obtain ⟨n1, e, hF⟩ := hF
  refine s_alen dL_law_20 e ?_
  refine m_bipush dL_law_21 kb_6 ?_
  refine m_isub dL_law_23 ?_
  refine m_icmp_gt 1251 dL_law_24 (by decide) (fun c => ?_) (fun c => ?_)
  · replace hF := hF.1 c
    refine m_iconst dL_law_1251 ki_1 ?_
    exact m_ireturn dL_law_1252 (Or.inr rfl) hF
  · replace hF := hF.2 c
    refine m_aload_n dL_law_27 rfl ?_
    refine m_iload_n dL_law_28 rfl ?_
    obtain ⟨x2, e, hF⟩ := hF
    refine s_iald dL_law_29 e ?_
    refine m_bipush dL_law_30 kb_31 ?_
    refine m_iand dL_law_32 ?_
    by_cases e0 : (x2 &&& 31) = 0
    · replace hF := hF.1 e0
      refine m_tableIn 160 dL_law_33 (by rw [e0]; decide) (by rw [e0]; decide) (off := 127) (by rw [e0]; rfl) (by decide) ?_
      refine m_aload_n dL_law_160 rfl ?_
      refine m_aload_n dL_law_161 rfl ?_
      refine m_iload_n dL_law_162 rfl ?_
      refine m_iconst dL_law_163 ki_1 ?_
      refine m_iadd dL_law_164 ?_
      obtain ⟨x3, e, hF⟩ := hF
      refine s_iald dL_law_165 e ?_
      refine m_aload_n dL_law_166 rfl ?_
      refine m_iload_n dL_law_167 rfl ?_
      refine m_iconst dL_law_168 ki_2 ?_
      refine m_iadd dL_law_169 ?_
      obtain ⟨x4, e, hF⟩ := hF
      refine s_iald dL_law_170 e ?_
      refine m_aload_n dL_law_171 rfl ?_
      refine m_iload_n dL_law_172 rfl ?_
      refine m_iconst dL_law_173 ki_3 ?_
      refine m_iadd dL_law_174 ?_
      obtain ⟨x5, e, hF⟩ := hF
      refine s_iald dL_law_175 e ?_
      obtain ⟨fs16, e, hF⟩ := hF
      refine m_virtual (as := [.int x3, .int x4, .int x5]) (rest := []) cv_L_13_10 e dL_law_176 rfl rfl (Nat.le_of_ble_eq_true rfl) (Nat.le_of_eq (Nat.zero_add _)) (Nat.le_of_eq (Nat.zero_add _)) (b1 := (0, 0)) (b2 := b) (Ev.mono hF ?_)
      intro r6 h7 hF
      obtain ⟨x8, rfl, hF⟩ := hF
      refine m_aload_n dL_law_179 rfl ?_
      refine m_aload_n dL_law_180 rfl ?_
      refine m_iload_n dL_law_181 rfl ?_
      refine m_iconst dL_law_182 ki_1 ?_
      refine m_iadd dL_law_183 ?_
      obtain ⟨x9, e, hF⟩ := hF
      refine s_iald dL_law_184 e ?_
      refine m_aload_n dL_law_185 rfl ?_
      refine m_iload_n dL_law_186 rfl ?_
      refine m_iconst dL_law_187 ki_2 ?_
      refine m_iadd dL_law_188 ?_
      obtain ⟨x10, e, hF⟩ := hF
      refine s_iald dL_law_189 e ?_
      refine m_aload_n dL_law_190 rfl ?_
      refine m_iload_n dL_law_191 rfl ?_
      refine m_iconst dL_law_192 ki_3 ?_
      refine m_iadd dL_law_193 ?_
      obtain ⟨x11, e, hF⟩ := hF
      refine s_iald dL_law_194 e ?_
      obtain ⟨fs15, e, hF⟩ := hF
      refine m_virtual (as := [.int x9, .int x10, .int x11]) (rest := [.int x8]) cv_L_17_11 e dL_law_195 rfl rfl (Nat.le_of_ble_eq_true rfl) (Nat.le_of_eq (Nat.zero_add _)) (Nat.le_of_eq (Nat.zero_add _)) (b1 := (0, 0)) (b2 := b) (Ev.mono hF ?_)
      intro r12 h13 hF
      obtain ⟨x14, rfl, hF⟩ := hF
      refine m_icmp_eq 1245 dL_law_198 (by decide) (fun c => ?_) (fun c => ?_)
      · replace hF := hF.1 c
        refine m_iinc (v := x_3 + 6) (ls2 := [some (.ref 0), some (.ref r_1), some (.ref r_2), some (.int (x_3 + 6))]) dL_law_1245 (by decide) rfl (congrArg (_ + ·) ki_6) rfl ?_
        refine m_goto 18 dL_law_1248 (by decide) ?_
        exact hF
      · replace hF := hF.2 c
        refine m_iconst dL_law_201 ki_0 ?_
        exact m_ireturn dL_law_202 (Or.inl rfl) hF
    replace hF := hF.2
    by_cases e1 : (x2 &&& 31) = 1
    · replace hF := hF.1 e1
      refine m_tableIn 203 dL_law_33 (by rw [e1]; decide) (by rw [e1]; decide) (off := 170) (by rw [e1]; rfl) (by decide) ?_
      refine m_aload_n dL_law_203 rfl ?_
      refine m_aload_n dL_law_204 rfl ?_
      refine m_iload_n dL_law_205 rfl ?_
      refine m_iconst dL_law_206 ki_1 ?_
      refine m_iadd dL_law_207 ?_
      obtain ⟨x17, e, hF⟩ := hF
      refine s_iald dL_law_208 e ?_
      refine m_aload_n dL_law_209 rfl ?_
      refine m_iload_n dL_law_210 rfl ?_
      refine m_iconst dL_law_211 ki_2 ?_
      refine m_iadd dL_law_212 ?_
      obtain ⟨x18, e, hF⟩ := hF
      refine s_iald dL_law_213 e ?_
      refine m_aload_n dL_law_214 rfl ?_
      refine m_iload_n dL_law_215 rfl ?_
      refine m_iconst dL_law_216 ki_3 ?_
      refine m_iadd dL_law_217 ?_
      obtain ⟨x19, e, hF⟩ := hF
      refine s_iald dL_law_218 e ?_
      obtain ⟨fs30, e, hF⟩ := hF
      refine m_virtual (as := [.int x17, .int x18, .int x19]) (rest := []) cv_L_18_10 e dL_law_219 rfl rfl (Nat.le_of_ble_eq_true rfl) (Nat.le_of_eq (Nat.zero_add _)) (Nat.le_of_eq (Nat.zero_add _)) (b1 := (0, 0)) (b2 := b) (Ev.mono hF ?_)
      intro r20 h21 hF
      obtain ⟨x22, rfl, hF⟩ := hF
      refine m_aload_n dL_law_222 rfl ?_
      refine m_aload_n dL_law_223 rfl ?_
      refine m_iload_n dL_law_224 rfl ?_
      refine m_iconst dL_law_225 ki_1 ?_
      refine m_iadd dL_law_226 ?_
      obtain ⟨x23, e, hF⟩ := hF
      refine s_iald dL_law_227 e ?_
      refine m_aload_n dL_law_228 rfl ?_
      refine m_iload_n dL_law_229 rfl ?_
      refine m_iconst dL_law_230 ki_2 ?_
      refine m_iadd dL_law_231 ?_
      obtain ⟨x24, e, hF⟩ := hF
      refine s_iald dL_law_232 e ?_
      refine m_aload_n dL_law_233 rfl ?_
      refine m_iload_n dL_law_234 rfl ?_
      refine m_iconst dL_law_235 ki_3 ?_
      refine m_iadd dL_law_236 ?_
      obtain ⟨x25, e, hF⟩ := hF
      refine s_iald dL_law_237 e ?_
      obtain ⟨fs29, e, hF⟩ := hF
      refine m_virtual (as := [.int x23, .int x24, .int x25]) (rest := [.int x22]) cv_L_21_11 e dL_law_238 rfl rfl (Nat.le_of_ble_eq_true rfl) (Nat.le_of_eq (Nat.zero_add _)) (Nat.le_of_eq (Nat.zero_add _)) (b1 := (0, 0)) (b2 := b) (Ev.mono hF ?_)
      intro r26 h27 hF
      obtain ⟨x28, rfl, hF⟩ := hF
      refine m_icmp_eq 1245 dL_law_241 (by decide) (fun c => ?_) (fun c => ?_)
      · replace hF := hF.1 c
        refine m_iinc (v := x_3 + 6) (ls2 := [some (.ref 0), some (.ref r_1), some (.ref r_2), some (.int (x_3 + 6))]) dL_law_1245 (by decide) rfl (congrArg (_ + ·) ki_6) rfl ?_
        refine m_goto 18 dL_law_1248 (by decide) ?_
        exact hF
      · replace hF := hF.2 c
        refine m_iconst dL_law_244 ki_0 ?_
        exact m_ireturn dL_law_245 (Or.inl rfl) hF
    replace hF := hF.2
    by_cases e2 : (x2 &&& 31) = 2
    · replace hF := hF.1 e2
      refine m_tableIn 246 dL_law_33 (by rw [e2]; decide) (by rw [e2]; decide) (off := 213) (by rw [e2]; rfl) (by decide) ?_
      refine m_aload_n dL_law_246 rfl ?_
      refine m_aload_n dL_law_247 rfl ?_
      refine m_iload_n dL_law_248 rfl ?_
      refine m_iconst dL_law_249 ki_1 ?_
      refine m_iadd dL_law_250 ?_
      obtain ⟨x31, e, hF⟩ := hF
      refine s_iald dL_law_251 e ?_
      refine m_aload_n dL_law_252 rfl ?_
      refine m_iload_n dL_law_253 rfl ?_
      refine m_iconst dL_law_254 ki_2 ?_
      refine m_iadd dL_law_255 ?_
      obtain ⟨x32, e, hF⟩ := hF
      refine s_iald dL_law_256 e ?_
      refine m_aload_n dL_law_257 rfl ?_
      refine m_iload_n dL_law_258 rfl ?_
      refine m_iconst dL_law_259 ki_3 ?_
      refine m_iadd dL_law_260 ?_
      obtain ⟨x33, e, hF⟩ := hF
      refine s_iald dL_law_261 e ?_
      refine m_aload_n dL_law_262 rfl ?_
      refine m_iload_n dL_law_263 rfl ?_
      refine m_iconst dL_law_264 ki_4 ?_
      refine m_iadd dL_law_265 ?_
      obtain ⟨x34, e, hF⟩ := hF
      refine s_iald dL_law_266 e ?_
      refine m_aload_n dL_law_267 rfl ?_
      refine m_iload_n dL_law_268 rfl ?_
      refine m_iconst dL_law_269 ki_5 ?_
      refine m_iadd dL_law_270 ?_
      obtain ⟨x35, e, hF⟩ := hF
      refine s_iald dL_law_271 e ?_
      obtain ⟨fs48, e, hF⟩ := hF
      refine m_virtual (as := [.int x31, .int x32, .int x33, .int x34, .int x35]) (rest := []) cv_L_22_10 e dL_law_272 rfl rfl (Nat.le_of_ble_eq_true rfl) (Nat.le_of_eq (Nat.zero_add _)) (Nat.le_of_eq (Nat.zero_add _)) (b1 := (0, 0)) (b2 := b) (Ev.mono hF ?_)
      intro r36 h37 hF
      obtain ⟨x38, rfl, hF⟩ := hF
      refine m_aload_n dL_law_275 rfl ?_
      refine m_aload_n dL_law_276 rfl ?_
      refine m_iload_n dL_law_277 rfl ?_
      refine m_iconst dL_law_278 ki_1 ?_
      refine m_iadd dL_law_279 ?_
      obtain ⟨x39, e, hF⟩ := hF
      refine s_iald dL_law_280 e ?_
      refine m_aload_n dL_law_281 rfl ?_
      refine m_iload_n dL_law_282 rfl ?_
      refine m_iconst dL_law_283 ki_2 ?_
      refine m_iadd dL_law_284 ?_
      obtain ⟨x40, e, hF⟩ := hF
      refine s_iald dL_law_285 e ?_
      refine m_aload_n dL_law_286 rfl ?_
      refine m_iload_n dL_law_287 rfl ?_
      refine m_iconst dL_law_288 ki_3 ?_
      refine m_iadd dL_law_289 ?_
      obtain ⟨x41, e, hF⟩ := hF
      refine s_iald dL_law_290 e ?_
      refine m_aload_n dL_law_291 rfl ?_
      refine m_iload_n dL_law_292 rfl ?_
      refine m_iconst dL_law_293 ki_4 ?_
      refine m_iadd dL_law_294 ?_
      obtain ⟨x42, e, hF⟩ := hF
      refine s_iald dL_law_295 e ?_
      refine m_aload_n dL_law_296 rfl ?_
      refine m_iload_n dL_law_297 rfl ?_
      refine m_iconst dL_law_298 ki_5 ?_
      refine m_iadd dL_law_299 ?_
      obtain ⟨x43, e, hF⟩ := hF
      refine s_iald dL_law_300 e ?_
      obtain ⟨fs47, e, hF⟩ := hF
      refine m_virtual (as := [.int x39, .int x40, .int x41, .int x42, .int x43]) (rest := [.int x38]) cv_L_26_11 e dL_law_301 rfl rfl (Nat.le_of_ble_eq_true rfl) (Nat.le_of_eq (Nat.zero_add _)) (Nat.le_of_eq (Nat.zero_add _)) (b1 := (0, 0)) (b2 := b) (Ev.mono hF ?_)
      intro r44 h45 hF
      obtain ⟨x46, rfl, hF⟩ := hF
      refine m_icmp_eq 1245 dL_law_304 (by decide) (fun c => ?_) (fun c => ?_)
      · replace hF := hF.1 c
        refine m_iinc (v := x_3 + 6) (ls2 := [some (.ref 0), some (.ref r_1), some (.ref r_2), some (.int (x_3 + 6))]) dL_law_1245 (by decide) rfl (congrArg (_ + ·) ki_6) rfl ?_
        refine m_goto 18 dL_law_1248 (by decide) ?_
        exact hF
      · replace hF := hF.2 c
        refine m_iconst dL_law_307 ki_0 ?_
        exact m_ireturn dL_law_308 (Or.inl rfl) hF
    replace hF := hF.2
    by_cases e3 : (x2 &&& 31) = 3
    · replace hF := hF.1 e3
      refine m_tableIn 309 dL_law_33 (by rw [e3]; decide) (by rw [e3]; decide) (off := 276) (by rw [e3]; rfl) (by decide) ?_
      refine m_aload_n dL_law_309 rfl ?_
      refine m_aload_n dL_law_310 rfl ?_
      refine m_iload_n dL_law_311 rfl ?_
      refine m_iconst dL_law_312 ki_1 ?_
      refine m_iadd dL_law_313 ?_
      obtain ⟨x49, e, hF⟩ := hF
      refine s_iald dL_law_314 e ?_
      obtain ⟨fs58, e, hF⟩ := hF
      refine m_virtual (as := [.int x49]) (rest := []) cv_L_27_10 e dL_law_315 rfl rfl (Nat.le_of_ble_eq_true rfl) (Nat.le_of_eq (Nat.zero_add _)) (Nat.le_of_eq (Nat.zero_add _)) (b1 := (0, 0)) (b2 := b) (Ev.mono hF ?_)
      intro r50 h51 hF
      obtain ⟨x52, rfl, hF⟩ := hF
      refine m_aload_n dL_law_318 rfl ?_
      refine m_aload_n dL_law_319 rfl ?_
      refine m_iload_n dL_law_320 rfl ?_
      refine m_iconst dL_law_321 ki_1 ?_
      refine m_iadd dL_law_322 ?_
      obtain ⟨x53, e, hF⟩ := hF
      refine s_iald dL_law_323 e ?_
      obtain ⟨fs57, e, hF⟩ := hF
      refine m_virtual (as := [.int x53]) (rest := [.int x52]) cv_L_31_11 e dL_law_324 rfl rfl (Nat.le_of_ble_eq_true rfl) (Nat.le_of_eq (Nat.zero_add _)) (Nat.le_of_eq (Nat.zero_add _)) (b1 := (0, 0)) (b2 := b) (Ev.mono hF ?_)
      intro r54 h55 hF
      obtain ⟨x56, rfl, hF⟩ := hF
      refine m_icmp_eq 1245 dL_law_327 (by decide) (fun c => ?_) (fun c => ?_)
      · replace hF := hF.1 c
        refine m_iinc (v := x_3 + 6) (ls2 := [some (.ref 0), some (.ref r_1), some (.ref r_2), some (.int (x_3 + 6))]) dL_law_1245 (by decide) rfl (congrArg (_ + ·) ki_6) rfl ?_
        refine m_goto 18 dL_law_1248 (by decide) ?_
        exact hF
      · replace hF := hF.2 c
        refine m_iconst dL_law_330 ki_0 ?_
        exact m_ireturn dL_law_331 (Or.inl rfl) hF
    replace hF := hF.2
    by_cases e4 : (x2 &&& 31) = 4
    · replace hF := hF.1 e4
      refine m_tableIn 332 dL_law_33 (by rw [e4]; decide) (by rw [e4]; decide) (off := 299) (by rw [e4]; rfl) (by decide) ?_
      refine m_aload_n dL_law_332 rfl ?_
      refine m_aload_n dL_law_333 rfl ?_
      refine m_iload_n dL_law_334 rfl ?_
      refine m_iconst dL_law_335 ki_1 ?_
      refine m_iadd dL_law_336 ?_
      obtain ⟨x59, e, hF⟩ := hF
      refine s_iald dL_law_337 e ?_
      refine m_aload_n dL_law_338 rfl ?_
      refine m_iload_n dL_law_339 rfl ?_
      refine m_iconst dL_law_340 ki_2 ?_
      refine m_iadd dL_law_341 ?_
      obtain ⟨x60, e, hF⟩ := hF
      refine s_iald dL_law_342 e ?_
      refine m_aload_n dL_law_343 rfl ?_
      refine m_iload_n dL_law_344 rfl ?_
      refine m_iconst dL_law_345 ki_3 ?_
      refine m_iadd dL_law_346 ?_
      obtain ⟨x61, e, hF⟩ := hF
      refine s_iald dL_law_347 e ?_
      refine m_aload_n dL_law_348 rfl ?_
      refine m_iload_n dL_law_349 rfl ?_
      refine m_iconst dL_law_350 ki_4 ?_
      refine m_iadd dL_law_351 ?_
      obtain ⟨x62, e, hF⟩ := hF
      refine s_iald dL_law_352 e ?_
      refine m_aload_n dL_law_353 rfl ?_
      refine m_iload_n dL_law_354 rfl ?_
      refine m_iconst dL_law_355 ki_5 ?_
      refine m_iadd dL_law_356 ?_
      obtain ⟨x63, e, hF⟩ := hF
      refine s_iald dL_law_357 e ?_
      obtain ⟨b67, g1, g2, hF⟩ := hF
      obtain ⟨fs77, e, hF⟩ := hF
      refine m_virtual (as := [.int x59, .int x60, .int x61, .int x62, .int x63]) (rest := []) cv_L_32_10 e dL_law_358 rfl rfl (Nat.le_of_ble_eq_true rfl) (Nat.le_of_eq (Nat.add_sub_cancel' g1)) (Nat.le_of_eq (Nat.add_sub_cancel' g2)) (b1 := b67) (b2 := (b.1 - b67.1, b.2 - b67.2)) (Ev.mono hF ?_)
      intro r64 h65 hF
      obtain ⟨x66, rfl, hF⟩ := hF
      refine m_aload_n dL_law_361 rfl ?_
      refine m_aload_n dL_law_362 rfl ?_
      refine m_iload_n dL_law_363 rfl ?_
      refine m_iconst dL_law_364 ki_1 ?_
      refine m_iadd dL_law_365 ?_
      obtain ⟨x68, e, hF⟩ := hF
      refine s_iald dL_law_366 e ?_
      refine m_aload_n dL_law_367 rfl ?_
      refine m_iload_n dL_law_368 rfl ?_
      refine m_iconst dL_law_369 ki_2 ?_
      refine m_iadd dL_law_370 ?_
      obtain ⟨x69, e, hF⟩ := hF
      refine s_iald dL_law_371 e ?_
      refine m_aload_n dL_law_372 rfl ?_
      refine m_iload_n dL_law_373 rfl ?_
      refine m_iconst dL_law_374 ki_3 ?_
      refine m_iadd dL_law_375 ?_
      obtain ⟨x70, e, hF⟩ := hF
      refine s_iald dL_law_376 e ?_
      refine m_aload_n dL_law_377 rfl ?_
      refine m_iload_n dL_law_378 rfl ?_
      refine m_iconst dL_law_379 ki_4 ?_
      refine m_iadd dL_law_380 ?_
      obtain ⟨x71, e, hF⟩ := hF
      refine s_iald dL_law_381 e ?_
      refine m_aload_n dL_law_382 rfl ?_
      refine m_iload_n dL_law_383 rfl ?_
      refine m_iconst dL_law_384 ki_5 ?_
      refine m_iadd dL_law_385 ?_
      obtain ⟨x72, e, hF⟩ := hF
      refine s_iald dL_law_386 e ?_
      obtain ⟨fs76, e, hF⟩ := hF
      refine m_virtual (as := [.int x68, .int x69, .int x70, .int x71, .int x72]) (rest := [.int x66]) cv_L_35_11 e dL_law_387 rfl rfl (Nat.le_of_ble_eq_true rfl) (Nat.le_of_eq (Nat.zero_add _)) (Nat.le_of_eq (Nat.zero_add _)) (b1 := (0, 0)) (b2 := (b.1 - b67.1, b.2 - b67.2)) (Ev.mono hF ?_)
      intro r73 h74 hF
      obtain ⟨x75, rfl, hF⟩ := hF
      refine m_icmp_eq 1245 dL_law_390 (by decide) (fun c => ?_) (fun c => ?_)
      · replace hF := hF.1 c
        refine m_iinc (v := x_3 + 6) (ls2 := [some (.ref 0), some (.ref r_1), some (.ref r_2), some (.int (x_3 + 6))]) dL_law_1245 (by decide) rfl (congrArg (_ + ·) ki_6) rfl ?_
        refine m_goto 18 dL_law_1248 (by decide) ?_
        exact hF
      · replace hF := hF.2 c
        refine m_iconst dL_law_393 ki_0 ?_
        exact m_ireturn dL_law_394 (Or.inl rfl) hF
    replace hF := hF.2
    by_cases e5 : (x2 &&& 31) = 5
    · replace hF := hF.1 e5
      refine m_tableIn 395 dL_law_33 (by rw [e5]; decide) (by rw [e5]; decide) (off := 362) (by rw [e5]; rfl) (by decide) ?_
      refine m_aload_n dL_law_395 rfl ?_
      refine m_aload_n dL_law_396 rfl ?_
      refine m_iload_n dL_law_397 rfl ?_
      refine m_iconst dL_law_398 ki_1 ?_
      refine m_iadd dL_law_399 ?_
      obtain ⟨x78, e, hF⟩ := hF
      refine s_iald dL_law_400 e ?_
      refine m_aload_n dL_law_401 rfl ?_
      refine m_iload_n dL_law_402 rfl ?_
      refine m_iconst dL_law_403 ki_2 ?_
      refine m_iadd dL_law_404 ?_
      obtain ⟨x79, e, hF⟩ := hF
      refine s_iald dL_law_405 e ?_
      refine m_aload_n dL_law_406 rfl ?_
      refine m_iload_n dL_law_407 rfl ?_
      refine m_iconst dL_law_408 ki_3 ?_
      refine m_iadd dL_law_409 ?_
      obtain ⟨x80, e, hF⟩ := hF
      refine s_iald dL_law_410 e ?_
      obtain ⟨b84, g1, g2, hF⟩ := hF
      obtain ⟨fs92, e, hF⟩ := hF
      refine m_virtual (as := [.int x78, .int x79, .int x80]) (rest := []) cv_L_36_10 e dL_law_411 rfl rfl (Nat.le_of_ble_eq_true rfl) (Nat.le_of_eq (Nat.add_sub_cancel' g1)) (Nat.le_of_eq (Nat.add_sub_cancel' g2)) (b1 := b84) (b2 := (b.1 - b84.1, b.2 - b84.2)) (Ev.mono hF ?_)
      intro r81 h82 hF
      obtain ⟨x83, rfl, hF⟩ := hF
      refine m_aload_n dL_law_414 rfl ?_
      refine m_aload_n dL_law_415 rfl ?_
      refine m_iload_n dL_law_416 rfl ?_
      refine m_iconst dL_law_417 ki_1 ?_
      refine m_iadd dL_law_418 ?_
      obtain ⟨x85, e, hF⟩ := hF
      refine s_iald dL_law_419 e ?_
      refine m_aload_n dL_law_420 rfl ?_
      refine m_iload_n dL_law_421 rfl ?_
      refine m_iconst dL_law_422 ki_2 ?_
      refine m_iadd dL_law_423 ?_
      obtain ⟨x86, e, hF⟩ := hF
      refine s_iald dL_law_424 e ?_
      refine m_aload_n dL_law_425 rfl ?_
      refine m_iload_n dL_law_426 rfl ?_
      refine m_iconst dL_law_427 ki_3 ?_
      refine m_iadd dL_law_428 ?_
      obtain ⟨x87, e, hF⟩ := hF
      refine s_iald dL_law_429 e ?_
      obtain ⟨fs91, e, hF⟩ := hF
      refine m_virtual (as := [.int x85, .int x86, .int x87]) (rest := [.int x83]) cv_L_39_11 e dL_law_430 rfl rfl (Nat.le_of_ble_eq_true rfl) (Nat.le_of_eq (Nat.zero_add _)) (Nat.le_of_eq (Nat.zero_add _)) (b1 := (0, 0)) (b2 := (b.1 - b84.1, b.2 - b84.2)) (Ev.mono hF ?_)
      intro r88 h89 hF
      obtain ⟨x90, rfl, hF⟩ := hF
      refine m_icmp_eq 1245 dL_law_433 (by decide) (fun c => ?_) (fun c => ?_)
      · replace hF := hF.1 c
        refine m_iinc (v := x_3 + 6) (ls2 := [some (.ref 0), some (.ref r_1), some (.ref r_2), some (.int (x_3 + 6))]) dL_law_1245 (by decide) rfl (congrArg (_ + ·) ki_6) rfl ?_
        refine m_goto 18 dL_law_1248 (by decide) ?_
        exact hF
      · replace hF := hF.2 c
        refine m_iconst dL_law_436 ki_0 ?_
        exact m_ireturn dL_law_437 (Or.inl rfl) hF
    replace hF := hF.2
    by_cases e6 : (x2 &&& 31) = 6
    · replace hF := hF.1 e6
      refine m_tableIn 438 dL_law_33 (by rw [e6]; decide) (by rw [e6]; decide) (off := 405) (by rw [e6]; rfl) (by decide) ?_
      refine m_aload_n dL_law_438 rfl ?_
      refine m_aload_n dL_law_439 rfl ?_
      refine m_iload_n dL_law_440 rfl ?_
      refine m_iconst dL_law_441 ki_1 ?_
      refine m_iadd dL_law_442 ?_
      obtain ⟨x93, e, hF⟩ := hF
      refine s_iald dL_law_443 e ?_
      refine m_aload_n dL_law_444 rfl ?_
      refine m_iload_n dL_law_445 rfl ?_
      refine m_iconst dL_law_446 ki_2 ?_
      refine m_iadd dL_law_447 ?_
      obtain ⟨x94, e, hF⟩ := hF
      refine s_iald dL_law_448 e ?_
      obtain ⟨b98, g1, g2, hF⟩ := hF
      obtain ⟨fs105, e, hF⟩ := hF
      refine m_virtual (as := [.int x93, .int x94]) (rest := []) cv_L_40_10 e dL_law_449 rfl rfl (Nat.le_of_ble_eq_true rfl) (Nat.le_of_eq (Nat.add_sub_cancel' g1)) (Nat.le_of_eq (Nat.add_sub_cancel' g2)) (b1 := b98) (b2 := (b.1 - b98.1, b.2 - b98.2)) (Ev.mono hF ?_)
      intro r95 h96 hF
      obtain ⟨x97, rfl, hF⟩ := hF
      refine m_aload_n dL_law_452 rfl ?_
      refine m_aload_n dL_law_453 rfl ?_
      refine m_iload_n dL_law_454 rfl ?_
      refine m_iconst dL_law_455 ki_1 ?_
      refine m_iadd dL_law_456 ?_
      obtain ⟨x99, e, hF⟩ := hF
      refine s_iald dL_law_457 e ?_
      refine m_aload_n dL_law_458 rfl ?_
      refine m_iload_n dL_law_459 rfl ?_
      refine m_iconst dL_law_460 ki_2 ?_
      refine m_iadd dL_law_461 ?_
      obtain ⟨x100, e, hF⟩ := hF
      refine s_iald dL_law_462 e ?_
      obtain ⟨fs104, e, hF⟩ := hF
      refine m_virtual (as := [.int x99, .int x100]) (rest := [.int x97]) cv_L_44_11 e dL_law_463 rfl rfl (Nat.le_of_ble_eq_true rfl) (Nat.le_of_eq (Nat.zero_add _)) (Nat.le_of_eq (Nat.zero_add _)) (b1 := (0, 0)) (b2 := (b.1 - b98.1, b.2 - b98.2)) (Ev.mono hF ?_)
      intro r101 h102 hF
      obtain ⟨x103, rfl, hF⟩ := hF
      refine m_icmp_eq 1245 dL_law_466 (by decide) (fun c => ?_) (fun c => ?_)
      · replace hF := hF.1 c
        refine m_iinc (v := x_3 + 6) (ls2 := [some (.ref 0), some (.ref r_1), some (.ref r_2), some (.int (x_3 + 6))]) dL_law_1245 (by decide) rfl (congrArg (_ + ·) ki_6) rfl ?_
        refine m_goto 18 dL_law_1248 (by decide) ?_
        exact hF
      · replace hF := hF.2 c
        refine m_iconst dL_law_469 ki_0 ?_
        exact m_ireturn dL_law_470 (Or.inl rfl) hF
    replace hF := hF.2
    by_cases e7 : (x2 &&& 31) = 7
    · replace hF := hF.1 e7
      refine m_tableIn 471 dL_law_33 (by rw [e7]; decide) (by rw [e7]; decide) (off := 438) (by rw [e7]; rfl) (by decide) ?_
      refine m_aload_n dL_law_471 rfl ?_
      refine m_aload_n dL_law_472 rfl ?_
      refine m_iload_n dL_law_473 rfl ?_
      refine m_iconst dL_law_474 ki_1 ?_
      refine m_iadd dL_law_475 ?_
      obtain ⟨x106, e, hF⟩ := hF
      refine s_iald dL_law_476 e ?_
      refine m_aload_n dL_law_477 rfl ?_
      refine m_iload_n dL_law_478 rfl ?_
      refine m_iconst dL_law_479 ki_2 ?_
      refine m_iadd dL_law_480 ?_
      obtain ⟨x107, e, hF⟩ := hF
      refine s_iald dL_law_481 e ?_
      refine m_aload_n dL_law_482 rfl ?_
      refine m_iload_n dL_law_483 rfl ?_
      refine m_iconst dL_law_484 ki_3 ?_
      refine m_iadd dL_law_485 ?_
      obtain ⟨x108, e, hF⟩ := hF
      refine s_iald dL_law_486 e ?_
      refine m_aload_n dL_law_487 rfl ?_
      refine m_iload_n dL_law_488 rfl ?_
      refine m_iconst dL_law_489 ki_4 ?_
      refine m_iadd dL_law_490 ?_
      obtain ⟨x109, e, hF⟩ := hF
      refine s_iald dL_law_491 e ?_
      obtain ⟨b113, g1, g2, hF⟩ := hF
      obtain ⟨fs122, e, hF⟩ := hF
      refine m_virtual (as := [.int x106, .int x107, .int x108, .int x109]) (rest := []) cv_L_45_10 e dL_law_492 rfl rfl (Nat.le_of_ble_eq_true rfl) (Nat.le_of_eq (Nat.add_sub_cancel' g1)) (Nat.le_of_eq (Nat.add_sub_cancel' g2)) (b1 := b113) (b2 := (b.1 - b113.1, b.2 - b113.2)) (Ev.mono hF ?_)
      intro r110 h111 hF
      obtain ⟨x112, rfl, hF⟩ := hF
      refine m_aload_n dL_law_495 rfl ?_
      refine m_aload_n dL_law_496 rfl ?_
      refine m_iload_n dL_law_497 rfl ?_
      refine m_iconst dL_law_498 ki_1 ?_
      refine m_iadd dL_law_499 ?_
      obtain ⟨x114, e, hF⟩ := hF
      refine s_iald dL_law_500 e ?_
      refine m_aload_n dL_law_501 rfl ?_
      refine m_iload_n dL_law_502 rfl ?_
      refine m_iconst dL_law_503 ki_2 ?_
      refine m_iadd dL_law_504 ?_
      obtain ⟨x115, e, hF⟩ := hF
      refine s_iald dL_law_505 e ?_
      refine m_aload_n dL_law_506 rfl ?_
      refine m_iload_n dL_law_507 rfl ?_
      refine m_iconst dL_law_508 ki_3 ?_
      refine m_iadd dL_law_509 ?_
      obtain ⟨x116, e, hF⟩ := hF
      refine s_iald dL_law_510 e ?_
      refine m_aload_n dL_law_511 rfl ?_
      refine m_iload_n dL_law_512 rfl ?_
      refine m_iconst dL_law_513 ki_4 ?_
      refine m_iadd dL_law_514 ?_
      obtain ⟨x117, e, hF⟩ := hF
      refine s_iald dL_law_515 e ?_
      obtain ⟨fs121, e, hF⟩ := hF
      refine m_virtual (as := [.int x114, .int x115, .int x116, .int x117]) (rest := [.int x112]) cv_L_49_11 e dL_law_516 rfl rfl (Nat.le_of_ble_eq_true rfl) (Nat.le_of_eq (Nat.zero_add _)) (Nat.le_of_eq (Nat.zero_add _)) (b1 := (0, 0)) (b2 := (b.1 - b113.1, b.2 - b113.2)) (Ev.mono hF ?_)
      intro r118 h119 hF
      obtain ⟨x120, rfl, hF⟩ := hF
      refine m_icmp_eq 1245 dL_law_519 (by decide) (fun c => ?_) (fun c => ?_)
      · replace hF := hF.1 c
        refine m_iinc (v := x_3 + 6) (ls2 := [some (.ref 0), some (.ref r_1), some (.ref r_2), some (.int (x_3 + 6))]) dL_law_1245 (by decide) rfl (congrArg (_ + ·) ki_6) rfl ?_
        refine m_goto 18 dL_law_1248 (by decide) ?_
        exact hF
      · replace hF := hF.2 c
        refine m_iconst dL_law_522 ki_0 ?_
        exact m_ireturn dL_law_523 (Or.inl rfl) hF
    replace hF := hF.2
    by_cases e8 : (x2 &&& 31) = 8
    · replace hF := hF.1 e8
      refine m_tableIn 524 dL_law_33 (by rw [e8]; decide) (by rw [e8]; decide) (off := 491) (by rw [e8]; rfl) (by decide) ?_
      refine m_aload_n dL_law_524 rfl ?_
      refine m_aload_n dL_law_525 rfl ?_
      refine m_iload_n dL_law_526 rfl ?_
      refine m_iconst dL_law_527 ki_1 ?_
      refine m_iadd dL_law_528 ?_
      obtain ⟨x123, e, hF⟩ := hF
      refine s_iald dL_law_529 e ?_
      refine m_aload_n dL_law_530 rfl ?_
      refine m_iload_n dL_law_531 rfl ?_
      refine m_iconst dL_law_532 ki_2 ?_
      refine m_iadd dL_law_533 ?_
      obtain ⟨x124, e, hF⟩ := hF
      refine s_iald dL_law_534 e ?_
      refine m_aload_n dL_law_535 rfl ?_
      refine m_iload_n dL_law_536 rfl ?_
      refine m_iconst dL_law_537 ki_3 ?_
      refine m_iadd dL_law_538 ?_
      obtain ⟨x125, e, hF⟩ := hF
      refine s_iald dL_law_539 e ?_
      refine m_aload_n dL_law_540 rfl ?_
      refine m_iload_n dL_law_541 rfl ?_
      refine m_iconst dL_law_542 ki_4 ?_
      refine m_iadd dL_law_543 ?_
      obtain ⟨x126, e, hF⟩ := hF
      refine s_iald dL_law_544 e ?_
      obtain ⟨b130, g1, g2, hF⟩ := hF
      obtain ⟨fs139, e, hF⟩ := hF
      refine m_virtual (as := [.int x123, .int x124, .int x125, .int x126]) (rest := []) cv_L_50_10 e dL_law_545 rfl rfl (Nat.le_of_ble_eq_true rfl) (Nat.le_of_eq (Nat.add_sub_cancel' g1)) (Nat.le_of_eq (Nat.add_sub_cancel' g2)) (b1 := b130) (b2 := (b.1 - b130.1, b.2 - b130.2)) (Ev.mono hF ?_)
      intro r127 h128 hF
      obtain ⟨x129, rfl, hF⟩ := hF
      refine m_aload_n dL_law_548 rfl ?_
      refine m_aload_n dL_law_549 rfl ?_
      refine m_iload_n dL_law_550 rfl ?_
      refine m_iconst dL_law_551 ki_1 ?_
      refine m_iadd dL_law_552 ?_
      obtain ⟨x131, e, hF⟩ := hF
      refine s_iald dL_law_553 e ?_
      refine m_aload_n dL_law_554 rfl ?_
      refine m_iload_n dL_law_555 rfl ?_
      refine m_iconst dL_law_556 ki_2 ?_
      refine m_iadd dL_law_557 ?_
      obtain ⟨x132, e, hF⟩ := hF
      refine s_iald dL_law_558 e ?_
      refine m_aload_n dL_law_559 rfl ?_
      refine m_iload_n dL_law_560 rfl ?_
      refine m_iconst dL_law_561 ki_3 ?_
      refine m_iadd dL_law_562 ?_
      obtain ⟨x133, e, hF⟩ := hF
      refine s_iald dL_law_563 e ?_
      refine m_aload_n dL_law_564 rfl ?_
      refine m_iload_n dL_law_565 rfl ?_
      refine m_iconst dL_law_566 ki_4 ?_
      refine m_iadd dL_law_567 ?_
      obtain ⟨x134, e, hF⟩ := hF
      refine s_iald dL_law_568 e ?_
      obtain ⟨fs138, e, hF⟩ := hF
      refine m_virtual (as := [.int x131, .int x132, .int x133, .int x134]) (rest := [.int x129]) cv_L_53_11 e dL_law_569 rfl rfl (Nat.le_of_ble_eq_true rfl) (Nat.le_of_eq (Nat.zero_add _)) (Nat.le_of_eq (Nat.zero_add _)) (b1 := (0, 0)) (b2 := (b.1 - b130.1, b.2 - b130.2)) (Ev.mono hF ?_)
      intro r135 h136 hF
      obtain ⟨x137, rfl, hF⟩ := hF
      refine m_icmp_eq 1245 dL_law_572 (by decide) (fun c => ?_) (fun c => ?_)
      · replace hF := hF.1 c
        refine m_iinc (v := x_3 + 6) (ls2 := [some (.ref 0), some (.ref r_1), some (.ref r_2), some (.int (x_3 + 6))]) dL_law_1245 (by decide) rfl (congrArg (_ + ·) ki_6) rfl ?_
        refine m_goto 18 dL_law_1248 (by decide) ?_
        exact hF
      · replace hF := hF.2 c
        refine m_iconst dL_law_575 ki_0 ?_
        exact m_ireturn dL_law_576 (Or.inl rfl) hF
    replace hF := hF.2
    by_cases e9 : (x2 &&& 31) = 9
    · replace hF := hF.1 e9
      refine m_tableIn 577 dL_law_33 (by rw [e9]; decide) (by rw [e9]; decide) (off := 544) (by rw [e9]; rfl) (by decide) ?_
      refine m_aload_n dL_law_577 rfl ?_
      refine m_aload_n dL_law_578 rfl ?_
      refine m_iload_n dL_law_579 rfl ?_
      refine m_iconst dL_law_580 ki_1 ?_
      refine m_iadd dL_law_581 ?_
      obtain ⟨x140, e, hF⟩ := hF
      refine s_iald dL_law_582 e ?_
      refine m_aload_n dL_law_583 rfl ?_
      refine m_iload_n dL_law_584 rfl ?_
      refine m_iconst dL_law_585 ki_2 ?_
      refine m_iadd dL_law_586 ?_
      obtain ⟨x141, e, hF⟩ := hF
      refine s_iald dL_law_587 e ?_
      refine m_aload_n dL_law_588 rfl ?_
      refine m_iload_n dL_law_589 rfl ?_
      refine m_iconst dL_law_590 ki_3 ?_
      refine m_iadd dL_law_591 ?_
      obtain ⟨x142, e, hF⟩ := hF
      refine s_iald dL_law_592 e ?_
      obtain ⟨b146, g1, g2, hF⟩ := hF
      obtain ⟨fs154, e, hF⟩ := hF
      refine m_virtual (as := [.int x140, .int x141, .int x142]) (rest := []) cv_L_54_10 e dL_law_593 rfl rfl (Nat.le_of_ble_eq_true rfl) (Nat.le_of_eq (Nat.add_sub_cancel' g1)) (Nat.le_of_eq (Nat.add_sub_cancel' g2)) (b1 := b146) (b2 := (b.1 - b146.1, b.2 - b146.2)) (Ev.mono hF ?_)
      intro r143 h144 hF
      obtain ⟨x145, rfl, hF⟩ := hF
      refine m_aload_n dL_law_596 rfl ?_
      refine m_aload_n dL_law_597 rfl ?_
      refine m_iload_n dL_law_598 rfl ?_
      refine m_iconst dL_law_599 ki_1 ?_
      refine m_iadd dL_law_600 ?_
      obtain ⟨x147, e, hF⟩ := hF
      refine s_iald dL_law_601 e ?_
      refine m_aload_n dL_law_602 rfl ?_
      refine m_iload_n dL_law_603 rfl ?_
      refine m_iconst dL_law_604 ki_2 ?_
      refine m_iadd dL_law_605 ?_
      obtain ⟨x148, e, hF⟩ := hF
      refine s_iald dL_law_606 e ?_
      refine m_aload_n dL_law_607 rfl ?_
      refine m_iload_n dL_law_608 rfl ?_
      refine m_iconst dL_law_609 ki_3 ?_
      refine m_iadd dL_law_610 ?_
      obtain ⟨x149, e, hF⟩ := hF
      refine s_iald dL_law_611 e ?_
      obtain ⟨fs153, e, hF⟩ := hF
      refine m_virtual (as := [.int x147, .int x148, .int x149]) (rest := [.int x145]) cv_L_57_11 e dL_law_612 rfl rfl (Nat.le_of_ble_eq_true rfl) (Nat.le_of_eq (Nat.zero_add _)) (Nat.le_of_eq (Nat.zero_add _)) (b1 := (0, 0)) (b2 := (b.1 - b146.1, b.2 - b146.2)) (Ev.mono hF ?_)
      intro r150 h151 hF
      obtain ⟨x152, rfl, hF⟩ := hF
      refine m_icmp_eq 1245 dL_law_615 (by decide) (fun c => ?_) (fun c => ?_)
      · replace hF := hF.1 c
        refine m_iinc (v := x_3 + 6) (ls2 := [some (.ref 0), some (.ref r_1), some (.ref r_2), some (.int (x_3 + 6))]) dL_law_1245 (by decide) rfl (congrArg (_ + ·) ki_6) rfl ?_
        refine m_goto 18 dL_law_1248 (by decide) ?_
        exact hF
      · replace hF := hF.2 c
        refine m_iconst dL_law_618 ki_0 ?_
        exact m_ireturn dL_law_619 (Or.inl rfl) hF
    replace hF := hF.2
    by_cases e10 : (x2 &&& 31) = 10
    · replace hF := hF.1 e10
      refine m_tableIn 620 dL_law_33 (by rw [e10]; decide) (by rw [e10]; decide) (off := 587) (by rw [e10]; rfl) (by decide) ?_
      refine m_aload_n dL_law_620 rfl ?_
      refine m_aload_n dL_law_621 rfl ?_
      refine m_iload_n dL_law_622 rfl ?_
      refine m_iconst dL_law_623 ki_1 ?_
      refine m_iadd dL_law_624 ?_
      obtain ⟨x155, e, hF⟩ := hF
      refine s_iald dL_law_625 e ?_
      refine m_aload_n dL_law_626 rfl ?_
      refine m_iload_n dL_law_627 rfl ?_
      refine m_iconst dL_law_628 ki_2 ?_
      refine m_iadd dL_law_629 ?_
      obtain ⟨x156, e, hF⟩ := hF
      refine s_iald dL_law_630 e ?_
      refine m_aload_n dL_law_631 rfl ?_
      refine m_iload_n dL_law_632 rfl ?_
      refine m_iconst dL_law_633 ki_3 ?_
      refine m_iadd dL_law_634 ?_
      obtain ⟨x157, e, hF⟩ := hF
      refine s_iald dL_law_635 e ?_
      obtain ⟨b161, g1, g2, hF⟩ := hF
      obtain ⟨fs169, e, hF⟩ := hF
      refine m_virtual (as := [.int x155, .int x156, .int x157]) (rest := []) cv_L_58_10 e dL_law_636 rfl rfl (Nat.le_of_ble_eq_true rfl) (Nat.le_of_eq (Nat.add_sub_cancel' g1)) (Nat.le_of_eq (Nat.add_sub_cancel' g2)) (b1 := b161) (b2 := (b.1 - b161.1, b.2 - b161.2)) (Ev.mono hF ?_)
      intro r158 h159 hF
      obtain ⟨x160, rfl, hF⟩ := hF
      refine m_aload_n dL_law_639 rfl ?_
      refine m_aload_n dL_law_640 rfl ?_
      refine m_iload_n dL_law_641 rfl ?_
      refine m_iconst dL_law_642 ki_1 ?_
      refine m_iadd dL_law_643 ?_
      obtain ⟨x162, e, hF⟩ := hF
      refine s_iald dL_law_644 e ?_
      refine m_aload_n dL_law_645 rfl ?_
      refine m_iload_n dL_law_646 rfl ?_
      refine m_iconst dL_law_647 ki_2 ?_
      refine m_iadd dL_law_648 ?_
      obtain ⟨x163, e, hF⟩ := hF
      refine s_iald dL_law_649 e ?_
      refine m_aload_n dL_law_650 rfl ?_
      refine m_iload_n dL_law_651 rfl ?_
      refine m_iconst dL_law_652 ki_3 ?_
      refine m_iadd dL_law_653 ?_
      obtain ⟨x164, e, hF⟩ := hF
      refine s_iald dL_law_654 e ?_
      obtain ⟨fs168, e, hF⟩ := hF
      refine m_virtual (as := [.int x162, .int x163, .int x164]) (rest := [.int x160]) cv_L_61_11 e dL_law_655 rfl rfl (Nat.le_of_ble_eq_true rfl) (Nat.le_of_eq (Nat.zero_add _)) (Nat.le_of_eq (Nat.zero_add _)) (b1 := (0, 0)) (b2 := (b.1 - b161.1, b.2 - b161.2)) (Ev.mono hF ?_)
      intro r165 h166 hF
      obtain ⟨x167, rfl, hF⟩ := hF
      refine m_icmp_eq 1245 dL_law_658 (by decide) (fun c => ?_) (fun c => ?_)
      · replace hF := hF.1 c
        refine m_iinc (v := x_3 + 6) (ls2 := [some (.ref 0), some (.ref r_1), some (.ref r_2), some (.int (x_3 + 6))]) dL_law_1245 (by decide) rfl (congrArg (_ + ·) ki_6) rfl ?_
        refine m_goto 18 dL_law_1248 (by decide) ?_
        exact hF
      · replace hF := hF.2 c
        refine m_iconst dL_law_661 ki_0 ?_
        exact m_ireturn dL_law_662 (Or.inl rfl) hF
    replace hF := hF.2
    by_cases e11 : (x2 &&& 31) = 11
    · replace hF := hF.1 e11
      refine m_tableIn 663 dL_law_33 (by rw [e11]; decide) (by rw [e11]; decide) (off := 630) (by rw [e11]; rfl) (by decide) ?_
      refine m_aload_n dL_law_663 rfl ?_
      refine m_aload_n dL_law_664 rfl ?_
      refine m_iload_n dL_law_665 rfl ?_
      refine m_iconst dL_law_666 ki_1 ?_
      refine m_iadd dL_law_667 ?_
      obtain ⟨x170, e, hF⟩ := hF
      refine s_iald dL_law_668 e ?_
      obtain ⟨fs179, e, hF⟩ := hF
      refine m_virtual (as := [.int x170]) (rest := []) cv_L_62_10 e dL_law_669 rfl rfl (Nat.le_of_ble_eq_true rfl) (Nat.le_of_eq (Nat.zero_add _)) (Nat.le_of_eq (Nat.zero_add _)) (b1 := (0, 0)) (b2 := b) (Ev.mono hF ?_)
      intro r171 h172 hF
      obtain ⟨x173, rfl, hF⟩ := hF
      refine m_aload_n dL_law_672 rfl ?_
      refine m_aload_n dL_law_673 rfl ?_
      refine m_iload_n dL_law_674 rfl ?_
      refine m_iconst dL_law_675 ki_1 ?_
      refine m_iadd dL_law_676 ?_
      obtain ⟨x174, e, hF⟩ := hF
      refine s_iald dL_law_677 e ?_
      obtain ⟨fs178, e, hF⟩ := hF
      refine m_virtual (as := [.int x174]) (rest := [.int x173]) cv_L_65_11 e dL_law_678 rfl rfl (Nat.le_of_ble_eq_true rfl) (Nat.le_of_eq (Nat.zero_add _)) (Nat.le_of_eq (Nat.zero_add _)) (b1 := (0, 0)) (b2 := b) (Ev.mono hF ?_)
      intro r175 h176 hF
      obtain ⟨x177, rfl, hF⟩ := hF
      refine m_icmp_eq 1245 dL_law_681 (by decide) (fun c => ?_) (fun c => ?_)
      · replace hF := hF.1 c
        refine m_iinc (v := x_3 + 6) (ls2 := [some (.ref 0), some (.ref r_1), some (.ref r_2), some (.int (x_3 + 6))]) dL_law_1245 (by decide) rfl (congrArg (_ + ·) ki_6) rfl ?_
        refine m_goto 18 dL_law_1248 (by decide) ?_
        exact hF
      · replace hF := hF.2 c
        refine m_iconst dL_law_684 ki_0 ?_
        exact m_ireturn dL_law_685 (Or.inl rfl) hF
    replace hF := hF.2
    by_cases e12 : (x2 &&& 31) = 12
    · replace hF := hF.1 e12
      refine m_tableIn 686 dL_law_33 (by rw [e12]; decide) (by rw [e12]; decide) (off := 653) (by rw [e12]; rfl) (by decide) ?_
      refine m_aload_n dL_law_686 rfl ?_
      refine m_aload_n dL_law_687 rfl ?_
      refine m_iload_n dL_law_688 rfl ?_
      refine m_iconst dL_law_689 ki_1 ?_
      refine m_iadd dL_law_690 ?_
      obtain ⟨x180, e, hF⟩ := hF
      refine s_iald dL_law_691 e ?_
      refine m_aload_n dL_law_692 rfl ?_
      refine m_iload_n dL_law_693 rfl ?_
      refine m_iconst dL_law_694 ki_2 ?_
      refine m_iadd dL_law_695 ?_
      obtain ⟨x181, e, hF⟩ := hF
      refine s_iald dL_law_696 e ?_
      obtain ⟨fs191, e, hF⟩ := hF
      refine m_virtual (as := [.int x180, .int x181]) (rest := []) cv_L_66_10 e dL_law_697 rfl rfl (Nat.le_of_ble_eq_true rfl) (Nat.le_of_eq (Nat.zero_add _)) (Nat.le_of_eq (Nat.zero_add _)) (b1 := (0, 0)) (b2 := b) (Ev.mono hF ?_)
      intro r182 h183 hF
      obtain ⟨x184, rfl, hF⟩ := hF
      refine m_aload_n dL_law_700 rfl ?_
      refine m_aload_n dL_law_701 rfl ?_
      refine m_iload_n dL_law_702 rfl ?_
      refine m_iconst dL_law_703 ki_1 ?_
      refine m_iadd dL_law_704 ?_
      obtain ⟨x185, e, hF⟩ := hF
      refine s_iald dL_law_705 e ?_
      refine m_aload_n dL_law_706 rfl ?_
      refine m_iload_n dL_law_707 rfl ?_
      refine m_iconst dL_law_708 ki_2 ?_
      refine m_iadd dL_law_709 ?_
      obtain ⟨x186, e, hF⟩ := hF
      refine s_iald dL_law_710 e ?_
      obtain ⟨fs190, e, hF⟩ := hF
      refine m_virtual (as := [.int x185, .int x186]) (rest := [.int x184]) cv_L_69_11 e dL_law_711 rfl rfl (Nat.le_of_ble_eq_true rfl) (Nat.le_of_eq (Nat.zero_add _)) (Nat.le_of_eq (Nat.zero_add _)) (b1 := (0, 0)) (b2 := b) (Ev.mono hF ?_)
      intro r187 h188 hF
      obtain ⟨x189, rfl, hF⟩ := hF
      refine m_icmp_eq 1245 dL_law_714 (by decide) (fun c => ?_) (fun c => ?_)
      · replace hF := hF.1 c
        refine m_iinc (v := x_3 + 6) (ls2 := [some (.ref 0), some (.ref r_1), some (.ref r_2), some (.int (x_3 + 6))]) dL_law_1245 (by decide) rfl (congrArg (_ + ·) ki_6) rfl ?_
        refine m_goto 18 dL_law_1248 (by decide) ?_
        exact hF
      · replace hF := hF.2 c
        refine m_iconst dL_law_717 ki_0 ?_
        exact m_ireturn dL_law_718 (Or.inl rfl) hF
    replace hF := hF.2
    by_cases e13 : (x2 &&& 31) = 13
    · replace hF := hF.1 e13
      refine m_tableIn 719 dL_law_33 (by rw [e13]; decide) (by rw [e13]; decide) (off := 686) (by rw [e13]; rfl) (by decide) ?_
      refine m_aload_n dL_law_719 rfl ?_
      refine m_aload_n dL_law_720 rfl ?_
      refine m_iload_n dL_law_721 rfl ?_
      refine m_iconst dL_law_722 ki_1 ?_
      refine m_iadd dL_law_723 ?_
      obtain ⟨x192, e, hF⟩ := hF
      refine s_iald dL_law_724 e ?_
      refine m_aload_n dL_law_725 rfl ?_
      refine m_iload_n dL_law_726 rfl ?_
      refine m_iconst dL_law_727 ki_2 ?_
      refine m_iadd dL_law_728 ?_
      obtain ⟨x193, e, hF⟩ := hF
      refine s_iald dL_law_729 e ?_
      refine m_aload_n dL_law_730 rfl ?_
      refine m_iload_n dL_law_731 rfl ?_
      refine m_iconst dL_law_732 ki_3 ?_
      refine m_iadd dL_law_733 ?_
      obtain ⟨x194, e, hF⟩ := hF
      refine s_iald dL_law_734 e ?_
      obtain ⟨fs205, e, hF⟩ := hF
      refine m_virtual (as := [.int x192, .int x193, .int x194]) (rest := []) cv_L_70_10 e dL_law_735 rfl rfl (Nat.le_of_ble_eq_true rfl) (Nat.le_of_eq (Nat.zero_add _)) (Nat.le_of_eq (Nat.zero_add _)) (b1 := (0, 0)) (b2 := b) (Ev.mono hF ?_)
      intro r195 h196 hF
      obtain ⟨x197, rfl, hF⟩ := hF
      refine m_aload_n dL_law_738 rfl ?_
      refine m_aload_n dL_law_739 rfl ?_
      refine m_iload_n dL_law_740 rfl ?_
      refine m_iconst dL_law_741 ki_1 ?_
      refine m_iadd dL_law_742 ?_
      obtain ⟨x198, e, hF⟩ := hF
      refine s_iald dL_law_743 e ?_
      refine m_aload_n dL_law_744 rfl ?_
      refine m_iload_n dL_law_745 rfl ?_
      refine m_iconst dL_law_746 ki_2 ?_
      refine m_iadd dL_law_747 ?_
      obtain ⟨x199, e, hF⟩ := hF
      refine s_iald dL_law_748 e ?_
      refine m_aload_n dL_law_749 rfl ?_
      refine m_iload_n dL_law_750 rfl ?_
      refine m_iconst dL_law_751 ki_3 ?_
      refine m_iadd dL_law_752 ?_
      obtain ⟨x200, e, hF⟩ := hF
      refine s_iald dL_law_753 e ?_
      obtain ⟨fs204, e, hF⟩ := hF
      refine m_virtual (as := [.int x198, .int x199, .int x200]) (rest := [.int x197]) cv_L_73_11 e dL_law_754 rfl rfl (Nat.le_of_ble_eq_true rfl) (Nat.le_of_eq (Nat.zero_add _)) (Nat.le_of_eq (Nat.zero_add _)) (b1 := (0, 0)) (b2 := b) (Ev.mono hF ?_)
      intro r201 h202 hF
      obtain ⟨x203, rfl, hF⟩ := hF
      refine m_icmp_eq 1245 dL_law_757 (by decide) (fun c => ?_) (fun c => ?_)
      · replace hF := hF.1 c
        refine m_iinc (v := x_3 + 6) (ls2 := [some (.ref 0), some (.ref r_1), some (.ref r_2), some (.int (x_3 + 6))]) dL_law_1245 (by decide) rfl (congrArg (_ + ·) ki_6) rfl ?_
        refine m_goto 18 dL_law_1248 (by decide) ?_
        exact hF
      · replace hF := hF.2 c
        refine m_iconst dL_law_760 ki_0 ?_
        exact m_ireturn dL_law_761 (Or.inl rfl) hF
    replace hF := hF.2
    by_cases e14 : (x2 &&& 31) = 14
    · replace hF := hF.1 e14
      refine m_tableIn 762 dL_law_33 (by rw [e14]; decide) (by rw [e14]; decide) (off := 729) (by rw [e14]; rfl) (by decide) ?_
      refine m_aload_n dL_law_762 rfl ?_
      refine m_aload_n dL_law_763 rfl ?_
      refine m_iload_n dL_law_764 rfl ?_
      refine m_iconst dL_law_765 ki_1 ?_
      refine m_iadd dL_law_766 ?_
      obtain ⟨x206, e, hF⟩ := hF
      refine s_iald dL_law_767 e ?_
      refine m_aload_n dL_law_768 rfl ?_
      refine m_iload_n dL_law_769 rfl ?_
      refine m_iconst dL_law_770 ki_2 ?_
      refine m_iadd dL_law_771 ?_
      obtain ⟨x207, e, hF⟩ := hF
      refine s_iald dL_law_772 e ?_
      refine m_aload_n dL_law_773 rfl ?_
      refine m_iload_n dL_law_774 rfl ?_
      refine m_iconst dL_law_775 ki_3 ?_
      refine m_iadd dL_law_776 ?_
      obtain ⟨x208, e, hF⟩ := hF
      refine s_iald dL_law_777 e ?_
      obtain ⟨fs219, e, hF⟩ := hF
      refine m_virtual (as := [.int x206, .int x207, .int x208]) (rest := []) cv_L_74_10 e dL_law_778 rfl rfl (Nat.le_of_ble_eq_true rfl) (Nat.le_of_eq (Nat.zero_add _)) (Nat.le_of_eq (Nat.zero_add _)) (b1 := (0, 0)) (b2 := b) (Ev.mono hF ?_)
      intro r209 h210 hF
      obtain ⟨x211, rfl, hF⟩ := hF
      refine m_aload_n dL_law_781 rfl ?_
      refine m_aload_n dL_law_782 rfl ?_
      refine m_iload_n dL_law_783 rfl ?_
      refine m_iconst dL_law_784 ki_1 ?_
      refine m_iadd dL_law_785 ?_
      obtain ⟨x212, e, hF⟩ := hF
      refine s_iald dL_law_786 e ?_
      refine m_aload_n dL_law_787 rfl ?_
      refine m_iload_n dL_law_788 rfl ?_
      refine m_iconst dL_law_789 ki_2 ?_
      refine m_iadd dL_law_790 ?_
      obtain ⟨x213, e, hF⟩ := hF
      refine s_iald dL_law_791 e ?_
      refine m_aload_n dL_law_792 rfl ?_
      refine m_iload_n dL_law_793 rfl ?_
      refine m_iconst dL_law_794 ki_3 ?_
      refine m_iadd dL_law_795 ?_
      obtain ⟨x214, e, hF⟩ := hF
      refine s_iald dL_law_796 e ?_
      obtain ⟨fs218, e, hF⟩ := hF
      refine m_virtual (as := [.int x212, .int x213, .int x214]) (rest := [.int x211]) cv_L_77_11 e dL_law_797 rfl rfl (Nat.le_of_ble_eq_true rfl) (Nat.le_of_eq (Nat.zero_add _)) (Nat.le_of_eq (Nat.zero_add _)) (b1 := (0, 0)) (b2 := b) (Ev.mono hF ?_)
      intro r215 h216 hF
      obtain ⟨x217, rfl, hF⟩ := hF
      refine m_icmp_eq 1245 dL_law_800 (by decide) (fun c => ?_) (fun c => ?_)
      · replace hF := hF.1 c
        refine m_iinc (v := x_3 + 6) (ls2 := [some (.ref 0), some (.ref r_1), some (.ref r_2), some (.int (x_3 + 6))]) dL_law_1245 (by decide) rfl (congrArg (_ + ·) ki_6) rfl ?_
        refine m_goto 18 dL_law_1248 (by decide) ?_
        exact hF
      · replace hF := hF.2 c
        refine m_iconst dL_law_803 ki_0 ?_
        exact m_ireturn dL_law_804 (Or.inl rfl) hF
    replace hF := hF.2
    by_cases e15 : (x2 &&& 31) = 15
    · replace hF := hF.1 e15
      refine m_tableIn 805 dL_law_33 (by rw [e15]; decide) (by rw [e15]; decide) (off := 772) (by rw [e15]; rfl) (by decide) ?_
      refine m_aload_n dL_law_805 rfl ?_
      refine m_aload_n dL_law_806 rfl ?_
      refine m_iload_n dL_law_807 rfl ?_
      refine m_iconst dL_law_808 ki_1 ?_
      refine m_iadd dL_law_809 ?_
      obtain ⟨x220, e, hF⟩ := hF
      refine s_iald dL_law_810 e ?_
      refine m_aload_n dL_law_811 rfl ?_
      refine m_iload_n dL_law_812 rfl ?_
      refine m_iconst dL_law_813 ki_2 ?_
      refine m_iadd dL_law_814 ?_
      obtain ⟨x221, e, hF⟩ := hF
      refine s_iald dL_law_815 e ?_
      refine m_aload_n dL_law_816 rfl ?_
      refine m_iload_n dL_law_817 rfl ?_
      refine m_iconst dL_law_818 ki_3 ?_
      refine m_iadd dL_law_819 ?_
      obtain ⟨x222, e, hF⟩ := hF
      refine s_iald dL_law_820 e ?_
      refine m_aload_n dL_law_821 rfl ?_
      refine m_iload_n dL_law_822 rfl ?_
      refine m_iconst dL_law_823 ki_4 ?_
      refine m_iadd dL_law_824 ?_
      obtain ⟨x223, e, hF⟩ := hF
      refine s_iald dL_law_825 e ?_
      obtain ⟨fs235, e, hF⟩ := hF
      refine m_virtual (as := [.int x220, .int x221, .int x222, .int x223]) (rest := []) cv_L_78_10 e dL_law_826 rfl rfl (Nat.le_of_ble_eq_true rfl) (Nat.le_of_eq (Nat.zero_add _)) (Nat.le_of_eq (Nat.zero_add _)) (b1 := (0, 0)) (b2 := b) (Ev.mono hF ?_)
      intro r224 h225 hF
      obtain ⟨x226, rfl, hF⟩ := hF
      refine m_aload_n dL_law_829 rfl ?_
      refine m_aload_n dL_law_830 rfl ?_
      refine m_iload_n dL_law_831 rfl ?_
      refine m_iconst dL_law_832 ki_1 ?_
      refine m_iadd dL_law_833 ?_
      obtain ⟨x227, e, hF⟩ := hF
      refine s_iald dL_law_834 e ?_
      refine m_aload_n dL_law_835 rfl ?_
      refine m_iload_n dL_law_836 rfl ?_
      refine m_iconst dL_law_837 ki_2 ?_
      refine m_iadd dL_law_838 ?_
      obtain ⟨x228, e, hF⟩ := hF
      refine s_iald dL_law_839 e ?_
      refine m_aload_n dL_law_840 rfl ?_
      refine m_iload_n dL_law_841 rfl ?_
      refine m_iconst dL_law_842 ki_3 ?_
      refine m_iadd dL_law_843 ?_
      obtain ⟨x229, e, hF⟩ := hF
      refine s_iald dL_law_844 e ?_
      refine m_aload_n dL_law_845 rfl ?_
      refine m_iload_n dL_law_846 rfl ?_
      refine m_iconst dL_law_847 ki_4 ?_
      refine m_iadd dL_law_848 ?_
      obtain ⟨x230, e, hF⟩ := hF
      refine s_iald dL_law_849 e ?_
      obtain ⟨fs234, e, hF⟩ := hF
      refine m_virtual (as := [.int x227, .int x228, .int x229, .int x230]) (rest := [.int x226]) cv_L_81_11 e dL_law_850 rfl rfl (Nat.le_of_ble_eq_true rfl) (Nat.le_of_eq (Nat.zero_add _)) (Nat.le_of_eq (Nat.zero_add _)) (b1 := (0, 0)) (b2 := b) (Ev.mono hF ?_)
      intro r231 h232 hF
      obtain ⟨x233, rfl, hF⟩ := hF
      refine m_icmp_eq 1245 dL_law_853 (by decide) (fun c => ?_) (fun c => ?_)
      · replace hF := hF.1 c
        refine m_iinc (v := x_3 + 6) (ls2 := [some (.ref 0), some (.ref r_1), some (.ref r_2), some (.int (x_3 + 6))]) dL_law_1245 (by decide) rfl (congrArg (_ + ·) ki_6) rfl ?_
        refine m_goto 18 dL_law_1248 (by decide) ?_
        exact hF
      · replace hF := hF.2 c
        refine m_iconst dL_law_856 ki_0 ?_
        exact m_ireturn dL_law_857 (Or.inl rfl) hF
    replace hF := hF.2
    by_cases e16 : (x2 &&& 31) = 16
    · replace hF := hF.1 e16
      refine m_tableIn 858 dL_law_33 (by rw [e16]; decide) (by rw [e16]; decide) (off := 825) (by rw [e16]; rfl) (by decide) ?_
      refine m_aload_n dL_law_858 rfl ?_
      refine m_aload_n dL_law_859 rfl ?_
      refine m_iload_n dL_law_860 rfl ?_
      refine m_iconst dL_law_861 ki_1 ?_
      refine m_iadd dL_law_862 ?_
      obtain ⟨x236, e, hF⟩ := hF
      refine s_iald dL_law_863 e ?_
      refine m_aload_n dL_law_864 rfl ?_
      refine m_iload_n dL_law_865 rfl ?_
      refine m_iconst dL_law_866 ki_2 ?_
      refine m_iadd dL_law_867 ?_
      obtain ⟨x237, e, hF⟩ := hF
      refine s_iald dL_law_868 e ?_
      obtain ⟨b241, g1, g2, hF⟩ := hF
      obtain ⟨fs248, e, hF⟩ := hF
      refine m_virtual (as := [.int x236, .int x237]) (rest := []) cv_L_82_10 e dL_law_869 rfl rfl (Nat.le_of_ble_eq_true rfl) (Nat.le_of_eq (Nat.add_sub_cancel' g1)) (Nat.le_of_eq (Nat.add_sub_cancel' g2)) (b1 := b241) (b2 := (b.1 - b241.1, b.2 - b241.2)) (Ev.mono hF ?_)
      intro r238 h239 hF
      obtain ⟨x240, rfl, hF⟩ := hF
      refine m_aload_n dL_law_872 rfl ?_
      refine m_aload_n dL_law_873 rfl ?_
      refine m_iload_n dL_law_874 rfl ?_
      refine m_iconst dL_law_875 ki_1 ?_
      refine m_iadd dL_law_876 ?_
      obtain ⟨x242, e, hF⟩ := hF
      refine s_iald dL_law_877 e ?_
      refine m_aload_n dL_law_878 rfl ?_
      refine m_iload_n dL_law_879 rfl ?_
      refine m_iconst dL_law_880 ki_2 ?_
      refine m_iadd dL_law_881 ?_
      obtain ⟨x243, e, hF⟩ := hF
      refine s_iald dL_law_882 e ?_
      obtain ⟨fs247, e, hF⟩ := hF
      refine m_virtual (as := [.int x242, .int x243]) (rest := [.int x240]) cv_L_85_11 e dL_law_883 rfl rfl (Nat.le_of_ble_eq_true rfl) (Nat.le_of_eq (Nat.zero_add _)) (Nat.le_of_eq (Nat.zero_add _)) (b1 := (0, 0)) (b2 := (b.1 - b241.1, b.2 - b241.2)) (Ev.mono hF ?_)
      intro r244 h245 hF
      obtain ⟨x246, rfl, hF⟩ := hF
      refine m_icmp_eq 1245 dL_law_886 (by decide) (fun c => ?_) (fun c => ?_)
      · replace hF := hF.1 c
        refine m_iinc (v := x_3 + 6) (ls2 := [some (.ref 0), some (.ref r_1), some (.ref r_2), some (.int (x_3 + 6))]) dL_law_1245 (by decide) rfl (congrArg (_ + ·) ki_6) rfl ?_
        refine m_goto 18 dL_law_1248 (by decide) ?_
        exact hF
      · replace hF := hF.2 c
        refine m_iconst dL_law_889 ki_0 ?_
        exact m_ireturn dL_law_890 (Or.inl rfl) hF
    replace hF := hF.2
    by_cases e17 : (x2 &&& 31) = 17
    · replace hF := hF.1 e17
      refine m_tableIn 891 dL_law_33 (by rw [e17]; decide) (by rw [e17]; decide) (off := 858) (by rw [e17]; rfl) (by decide) ?_
      refine m_aload_n dL_law_891 rfl ?_
      refine m_aload_n dL_law_892 rfl ?_
      refine m_iload_n dL_law_893 rfl ?_
      refine m_iconst dL_law_894 ki_1 ?_
      refine m_iadd dL_law_895 ?_
      obtain ⟨x249, e, hF⟩ := hF
      refine s_iald dL_law_896 e ?_
      obtain ⟨b253, g1, g2, hF⟩ := hF
      obtain ⟨fs259, e, hF⟩ := hF
      refine m_virtual (as := [.int x249]) (rest := []) cv_L_86_10 e dL_law_897 rfl rfl (Nat.le_of_ble_eq_true rfl) (Nat.le_of_eq (Nat.add_sub_cancel' g1)) (Nat.le_of_eq (Nat.add_sub_cancel' g2)) (b1 := b253) (b2 := (b.1 - b253.1, b.2 - b253.2)) (Ev.mono hF ?_)
      intro r250 h251 hF
      obtain ⟨x252, rfl, hF⟩ := hF
      refine m_aload_n dL_law_900 rfl ?_
      refine m_aload_n dL_law_901 rfl ?_
      refine m_iload_n dL_law_902 rfl ?_
      refine m_iconst dL_law_903 ki_1 ?_
      refine m_iadd dL_law_904 ?_
      obtain ⟨x254, e, hF⟩ := hF
      refine s_iald dL_law_905 e ?_
      obtain ⟨fs258, e, hF⟩ := hF
      refine m_virtual (as := [.int x254]) (rest := [.int x252]) cv_L_89_11 e dL_law_906 rfl rfl (Nat.le_of_ble_eq_true rfl) (Nat.le_of_eq (Nat.zero_add _)) (Nat.le_of_eq (Nat.zero_add _)) (b1 := (0, 0)) (b2 := (b.1 - b253.1, b.2 - b253.2)) (Ev.mono hF ?_)
      intro r255 h256 hF
      obtain ⟨x257, rfl, hF⟩ := hF
      refine m_icmp_eq 1245 dL_law_909 (by decide) (fun c => ?_) (fun c => ?_)
      · replace hF := hF.1 c
        refine m_iinc (v := x_3 + 6) (ls2 := [some (.ref 0), some (.ref r_1), some (.ref r_2), some (.int (x_3 + 6))]) dL_law_1245 (by decide) rfl (congrArg (_ + ·) ki_6) rfl ?_
        refine m_goto 18 dL_law_1248 (by decide) ?_
        exact hF
      · replace hF := hF.2 c
        refine m_iconst dL_law_912 ki_0 ?_
        exact m_ireturn dL_law_913 (Or.inl rfl) hF
    replace hF := hF.2
    by_cases e18 : (x2 &&& 31) = 18
    · replace hF := hF.1 e18
      refine m_tableIn 914 dL_law_33 (by rw [e18]; decide) (by rw [e18]; decide) (off := 881) (by rw [e18]; rfl) (by decide) ?_
      refine m_aload_n dL_law_914 rfl ?_
      refine m_aload_n dL_law_915 rfl ?_
      refine m_iload_n dL_law_916 rfl ?_
      refine m_iconst dL_law_917 ki_1 ?_
      refine m_iadd dL_law_918 ?_
      obtain ⟨x260, e, hF⟩ := hF
      refine s_iald dL_law_919 e ?_
      refine m_aload_n dL_law_920 rfl ?_
      refine m_iload_n dL_law_921 rfl ?_
      refine m_iconst dL_law_922 ki_2 ?_
      refine m_iadd dL_law_923 ?_
      obtain ⟨x261, e, hF⟩ := hF
      refine s_iald dL_law_924 e ?_
      refine m_aload_n dL_law_925 rfl ?_
      refine m_iload_n dL_law_926 rfl ?_
      refine m_iconst dL_law_927 ki_3 ?_
      refine m_iadd dL_law_928 ?_
      obtain ⟨x262, e, hF⟩ := hF
      refine s_iald dL_law_929 e ?_
      refine m_aload_n dL_law_930 rfl ?_
      refine m_iload_n dL_law_931 rfl ?_
      refine m_iconst dL_law_932 ki_4 ?_
      refine m_iadd dL_law_933 ?_
      obtain ⟨x263, e, hF⟩ := hF
      refine s_iald dL_law_934 e ?_
      refine m_aload_n dL_law_935 rfl ?_
      refine m_iload_n dL_law_936 rfl ?_
      refine m_iconst dL_law_937 ki_5 ?_
      refine m_iadd dL_law_938 ?_
      obtain ⟨x264, e, hF⟩ := hF
      refine s_iald dL_law_939 e ?_
      obtain ⟨fs277, e, hF⟩ := hF
      refine m_virtual (as := [.int x260, .int x261, .int x262, .int x263, .int x264]) (rest := []) cv_L_90_10 e dL_law_940 rfl rfl (Nat.le_of_ble_eq_true rfl) (Nat.le_of_eq (Nat.zero_add _)) (Nat.le_of_eq (Nat.zero_add _)) (b1 := (0, 0)) (b2 := b) (Ev.mono hF ?_)
      intro r265 h266 hF
      obtain ⟨x267, rfl, hF⟩ := hF
      refine m_aload_n dL_law_943 rfl ?_
      refine m_aload_n dL_law_944 rfl ?_
      refine m_iload_n dL_law_945 rfl ?_
      refine m_iconst dL_law_946 ki_1 ?_
      refine m_iadd dL_law_947 ?_
      obtain ⟨x268, e, hF⟩ := hF
      refine s_iald dL_law_948 e ?_
      refine m_aload_n dL_law_949 rfl ?_
      refine m_iload_n dL_law_950 rfl ?_
      refine m_iconst dL_law_951 ki_2 ?_
      refine m_iadd dL_law_952 ?_
      obtain ⟨x269, e, hF⟩ := hF
      refine s_iald dL_law_953 e ?_
      refine m_aload_n dL_law_954 rfl ?_
      refine m_iload_n dL_law_955 rfl ?_
      refine m_iconst dL_law_956 ki_3 ?_
      refine m_iadd dL_law_957 ?_
      obtain ⟨x270, e, hF⟩ := hF
      refine s_iald dL_law_958 e ?_
      refine m_aload_n dL_law_959 rfl ?_
      refine m_iload_n dL_law_960 rfl ?_
      refine m_iconst dL_law_961 ki_4 ?_
      refine m_iadd dL_law_962 ?_
      obtain ⟨x271, e, hF⟩ := hF
      refine s_iald dL_law_963 e ?_
      refine m_aload_n dL_law_964 rfl ?_
      refine m_iload_n dL_law_965 rfl ?_
      refine m_iconst dL_law_966 ki_5 ?_
      refine m_iadd dL_law_967 ?_
      obtain ⟨x272, e, hF⟩ := hF
      refine s_iald dL_law_968 e ?_
      obtain ⟨fs276, e, hF⟩ := hF
      refine m_virtual (as := [.int x268, .int x269, .int x270, .int x271, .int x272]) (rest := [.int x267]) cv_L_93_11 e dL_law_969 rfl rfl (Nat.le_of_ble_eq_true rfl) (Nat.le_of_eq (Nat.zero_add _)) (Nat.le_of_eq (Nat.zero_add _)) (b1 := (0, 0)) (b2 := b) (Ev.mono hF ?_)
      intro r273 h274 hF
      obtain ⟨x275, rfl, hF⟩ := hF
      refine m_icmp_eq 1245 dL_law_972 (by decide) (fun c => ?_) (fun c => ?_)
      · replace hF := hF.1 c
        refine m_iinc (v := x_3 + 6) (ls2 := [some (.ref 0), some (.ref r_1), some (.ref r_2), some (.int (x_3 + 6))]) dL_law_1245 (by decide) rfl (congrArg (_ + ·) ki_6) rfl ?_
        refine m_goto 18 dL_law_1248 (by decide) ?_
        exact hF
      · replace hF := hF.2 c
        refine m_iconst dL_law_975 ki_0 ?_
        exact m_ireturn dL_law_976 (Or.inl rfl) hF
    replace hF := hF.2
    by_cases e19 : (x2 &&& 31) = 19
    · replace hF := hF.1 e19
      refine m_tableIn 977 dL_law_33 (by rw [e19]; decide) (by rw [e19]; decide) (off := 944) (by rw [e19]; rfl) (by decide) ?_
      refine m_aload_n dL_law_977 rfl ?_
      refine m_aload_n dL_law_978 rfl ?_
      refine m_iload_n dL_law_979 rfl ?_
      refine m_iconst dL_law_980 ki_1 ?_
      refine m_iadd dL_law_981 ?_
      obtain ⟨x278, e, hF⟩ := hF
      refine s_iald dL_law_982 e ?_
      obtain ⟨fs287, e, hF⟩ := hF
      refine m_virtual (as := [.int x278]) (rest := []) cv_L_94_10 e dL_law_983 rfl rfl (Nat.le_of_ble_eq_true rfl) (Nat.le_of_eq (Nat.zero_add _)) (Nat.le_of_eq (Nat.zero_add _)) (b1 := (0, 0)) (b2 := b) (Ev.mono hF ?_)
      intro r279 h280 hF
      obtain ⟨x281, rfl, hF⟩ := hF
      refine m_aload_n dL_law_986 rfl ?_
      refine m_aload_n dL_law_987 rfl ?_
      refine m_iload_n dL_law_988 rfl ?_
      refine m_iconst dL_law_989 ki_1 ?_
      refine m_iadd dL_law_990 ?_
      obtain ⟨x282, e, hF⟩ := hF
      refine s_iald dL_law_991 e ?_
      obtain ⟨fs286, e, hF⟩ := hF
      refine m_virtual (as := [.int x282]) (rest := [.int x281]) cv_L_97_11 e dL_law_992 rfl rfl (Nat.le_of_ble_eq_true rfl) (Nat.le_of_eq (Nat.zero_add _)) (Nat.le_of_eq (Nat.zero_add _)) (b1 := (0, 0)) (b2 := b) (Ev.mono hF ?_)
      intro r283 h284 hF
      obtain ⟨x285, rfl, hF⟩ := hF
      refine m_icmp_eq 1245 dL_law_995 (by decide) (fun c => ?_) (fun c => ?_)
      · replace hF := hF.1 c
        refine m_iinc (v := x_3 + 6) (ls2 := [some (.ref 0), some (.ref r_1), some (.ref r_2), some (.int (x_3 + 6))]) dL_law_1245 (by decide) rfl (congrArg (_ + ·) ki_6) rfl ?_
        refine m_goto 18 dL_law_1248 (by decide) ?_
        exact hF
      · replace hF := hF.2 c
        refine m_iconst dL_law_998 ki_0 ?_
        exact m_ireturn dL_law_999 (Or.inl rfl) hF
    replace hF := hF.2
    by_cases e20 : (x2 &&& 31) = 20
    · replace hF := hF.1 e20
      refine m_tableIn 1000 dL_law_33 (by rw [e20]; decide) (by rw [e20]; decide) (off := 967) (by rw [e20]; rfl) (by decide) ?_
      refine m_aload_n dL_law_1000 rfl ?_
      refine m_aload_n dL_law_1001 rfl ?_
      refine m_iload_n dL_law_1002 rfl ?_
      refine m_iconst dL_law_1003 ki_1 ?_
      refine m_iadd dL_law_1004 ?_
      obtain ⟨x288, e, hF⟩ := hF
      refine s_iald dL_law_1005 e ?_
      refine m_aload_n dL_law_1006 rfl ?_
      refine m_iload_n dL_law_1007 rfl ?_
      refine m_iconst dL_law_1008 ki_2 ?_
      refine m_iadd dL_law_1009 ?_
      obtain ⟨x289, e, hF⟩ := hF
      refine s_iald dL_law_1010 e ?_
      obtain ⟨fs299, e, hF⟩ := hF
      refine m_virtual (as := [.int x288, .int x289]) (rest := []) cv_L_98_10 e dL_law_1011 rfl rfl (Nat.le_of_ble_eq_true rfl) (Nat.le_of_eq (Nat.zero_add _)) (Nat.le_of_eq (Nat.zero_add _)) (b1 := (0, 0)) (b2 := b) (Ev.mono hF ?_)
      intro r290 h291 hF
      obtain ⟨x292, rfl, hF⟩ := hF
      refine m_aload_n dL_law_1014 rfl ?_
      refine m_aload_n dL_law_1015 rfl ?_
      refine m_iload_n dL_law_1016 rfl ?_
      refine m_iconst dL_law_1017 ki_1 ?_
      refine m_iadd dL_law_1018 ?_
      obtain ⟨x293, e, hF⟩ := hF
      refine s_iald dL_law_1019 e ?_
      refine m_aload_n dL_law_1020 rfl ?_
      refine m_iload_n dL_law_1021 rfl ?_
      refine m_iconst dL_law_1022 ki_2 ?_
      refine m_iadd dL_law_1023 ?_
      obtain ⟨x294, e, hF⟩ := hF
      refine s_iald dL_law_1024 e ?_
      obtain ⟨fs298, e, hF⟩ := hF
      refine m_virtual (as := [.int x293, .int x294]) (rest := [.int x292]) cv_L_101_11 e dL_law_1025 rfl rfl (Nat.le_of_ble_eq_true rfl) (Nat.le_of_eq (Nat.zero_add _)) (Nat.le_of_eq (Nat.zero_add _)) (b1 := (0, 0)) (b2 := b) (Ev.mono hF ?_)
      intro r295 h296 hF
      obtain ⟨x297, rfl, hF⟩ := hF
      refine m_icmp_eq 1245 dL_law_1028 (by decide) (fun c => ?_) (fun c => ?_)
      · replace hF := hF.1 c
        refine m_iinc (v := x_3 + 6) (ls2 := [some (.ref 0), some (.ref r_1), some (.ref r_2), some (.int (x_3 + 6))]) dL_law_1245 (by decide) rfl (congrArg (_ + ·) ki_6) rfl ?_
        refine m_goto 18 dL_law_1248 (by decide) ?_
        exact hF
      · replace hF := hF.2 c
        refine m_iconst dL_law_1031 ki_0 ?_
        exact m_ireturn dL_law_1032 (Or.inl rfl) hF
    replace hF := hF.2
    by_cases e21 : (x2 &&& 31) = 21
    · replace hF := hF.1 e21
      refine m_tableIn 1033 dL_law_33 (by rw [e21]; decide) (by rw [e21]; decide) (off := 1000) (by rw [e21]; rfl) (by decide) ?_
      refine m_aload_n dL_law_1033 rfl ?_
      refine m_aload_n dL_law_1034 rfl ?_
      refine m_iload_n dL_law_1035 rfl ?_
      refine m_iconst dL_law_1036 ki_1 ?_
      refine m_iadd dL_law_1037 ?_
      obtain ⟨x300, e, hF⟩ := hF
      refine s_iald dL_law_1038 e ?_
      refine m_aload_n dL_law_1039 rfl ?_
      refine m_iload_n dL_law_1040 rfl ?_
      refine m_iconst dL_law_1041 ki_2 ?_
      refine m_iadd dL_law_1042 ?_
      obtain ⟨x301, e, hF⟩ := hF
      refine s_iald dL_law_1043 e ?_
      obtain ⟨fs311, e, hF⟩ := hF
      refine m_virtual (as := [.int x300, .int x301]) (rest := []) cv_L_102_10 e dL_law_1044 rfl rfl (Nat.le_of_ble_eq_true rfl) (Nat.le_of_eq (Nat.zero_add _)) (Nat.le_of_eq (Nat.zero_add _)) (b1 := (0, 0)) (b2 := b) (Ev.mono hF ?_)
      intro r302 h303 hF
      obtain ⟨x304, rfl, hF⟩ := hF
      refine m_aload_n dL_law_1047 rfl ?_
      refine m_aload_n dL_law_1048 rfl ?_
      refine m_iload_n dL_law_1049 rfl ?_
      refine m_iconst dL_law_1050 ki_1 ?_
      refine m_iadd dL_law_1051 ?_
      obtain ⟨x305, e, hF⟩ := hF
      refine s_iald dL_law_1052 e ?_
      refine m_aload_n dL_law_1053 rfl ?_
      refine m_iload_n dL_law_1054 rfl ?_
      refine m_iconst dL_law_1055 ki_2 ?_
      refine m_iadd dL_law_1056 ?_
      obtain ⟨x306, e, hF⟩ := hF
      refine s_iald dL_law_1057 e ?_
      obtain ⟨fs310, e, hF⟩ := hF
      refine m_virtual (as := [.int x305, .int x306]) (rest := [.int x304]) cv_L_105_11 e dL_law_1058 rfl rfl (Nat.le_of_ble_eq_true rfl) (Nat.le_of_eq (Nat.zero_add _)) (Nat.le_of_eq (Nat.zero_add _)) (b1 := (0, 0)) (b2 := b) (Ev.mono hF ?_)
      intro r307 h308 hF
      obtain ⟨x309, rfl, hF⟩ := hF
      refine m_icmp_eq 1245 dL_law_1061 (by decide) (fun c => ?_) (fun c => ?_)
      · replace hF := hF.1 c
        refine m_iinc (v := x_3 + 6) (ls2 := [some (.ref 0), some (.ref r_1), some (.ref r_2), some (.int (x_3 + 6))]) dL_law_1245 (by decide) rfl (congrArg (_ + ·) ki_6) rfl ?_
        refine m_goto 18 dL_law_1248 (by decide) ?_
        exact hF
      · replace hF := hF.2 c
        refine m_iconst dL_law_1064 ki_0 ?_
        exact m_ireturn dL_law_1065 (Or.inl rfl) hF
    replace hF := hF.2
    by_cases e22 : (x2 &&& 31) = 22
    · replace hF := hF.1 e22
      refine m_tableIn 1066 dL_law_33 (by rw [e22]; decide) (by rw [e22]; decide) (off := 1033) (by rw [e22]; rfl) (by decide) ?_
      refine m_aload_n dL_law_1066 rfl ?_
      refine m_aload_n dL_law_1067 rfl ?_
      refine m_iload_n dL_law_1068 rfl ?_
      refine m_iconst dL_law_1069 ki_1 ?_
      refine m_iadd dL_law_1070 ?_
      obtain ⟨x312, e, hF⟩ := hF
      refine s_iald dL_law_1071 e ?_
      refine m_aload_n dL_law_1072 rfl ?_
      refine m_iload_n dL_law_1073 rfl ?_
      refine m_iconst dL_law_1074 ki_2 ?_
      refine m_iadd dL_law_1075 ?_
      obtain ⟨x313, e, hF⟩ := hF
      refine s_iald dL_law_1076 e ?_
      obtain ⟨fs323, e, hF⟩ := hF
      refine m_virtual (as := [.int x312, .int x313]) (rest := []) cv_L_106_10 e dL_law_1077 rfl rfl (Nat.le_of_ble_eq_true rfl) (Nat.le_of_eq (Nat.zero_add _)) (Nat.le_of_eq (Nat.zero_add _)) (b1 := (0, 0)) (b2 := b) (Ev.mono hF ?_)
      intro r314 h315 hF
      obtain ⟨x316, rfl, hF⟩ := hF
      refine m_aload_n dL_law_1080 rfl ?_
      refine m_aload_n dL_law_1081 rfl ?_
      refine m_iload_n dL_law_1082 rfl ?_
      refine m_iconst dL_law_1083 ki_1 ?_
      refine m_iadd dL_law_1084 ?_
      obtain ⟨x317, e, hF⟩ := hF
      refine s_iald dL_law_1085 e ?_
      refine m_aload_n dL_law_1086 rfl ?_
      refine m_iload_n dL_law_1087 rfl ?_
      refine m_iconst dL_law_1088 ki_2 ?_
      refine m_iadd dL_law_1089 ?_
      obtain ⟨x318, e, hF⟩ := hF
      refine s_iald dL_law_1090 e ?_
      obtain ⟨fs322, e, hF⟩ := hF
      refine m_virtual (as := [.int x317, .int x318]) (rest := [.int x316]) cv_L_109_11 e dL_law_1091 rfl rfl (Nat.le_of_ble_eq_true rfl) (Nat.le_of_eq (Nat.zero_add _)) (Nat.le_of_eq (Nat.zero_add _)) (b1 := (0, 0)) (b2 := b) (Ev.mono hF ?_)
      intro r319 h320 hF
      obtain ⟨x321, rfl, hF⟩ := hF
      refine m_icmp_eq 1245 dL_law_1094 (by decide) (fun c => ?_) (fun c => ?_)
      · replace hF := hF.1 c
        refine m_iinc (v := x_3 + 6) (ls2 := [some (.ref 0), some (.ref r_1), some (.ref r_2), some (.int (x_3 + 6))]) dL_law_1245 (by decide) rfl (congrArg (_ + ·) ki_6) rfl ?_
        refine m_goto 18 dL_law_1248 (by decide) ?_
        exact hF
      · replace hF := hF.2 c
        refine m_iconst dL_law_1097 ki_0 ?_
        exact m_ireturn dL_law_1098 (Or.inl rfl) hF
    replace hF := hF.2
    by_cases e23 : (x2 &&& 31) = 23
    · replace hF := hF.1 e23
      refine m_tableIn 1099 dL_law_33 (by rw [e23]; decide) (by rw [e23]; decide) (off := 1066) (by rw [e23]; rfl) (by decide) ?_
      refine m_aload_n dL_law_1099 rfl ?_
      refine m_aload_n dL_law_1100 rfl ?_
      refine m_iload_n dL_law_1101 rfl ?_
      refine m_iconst dL_law_1102 ki_1 ?_
      refine m_iadd dL_law_1103 ?_
      obtain ⟨x324, e, hF⟩ := hF
      refine s_iald dL_law_1104 e ?_
      obtain ⟨fs333, e, hF⟩ := hF
      refine m_virtual (as := [.int x324]) (rest := []) cv_L_110_10 e dL_law_1105 rfl rfl (Nat.le_of_ble_eq_true rfl) (Nat.le_of_eq (Nat.zero_add _)) (Nat.le_of_eq (Nat.zero_add _)) (b1 := (0, 0)) (b2 := b) (Ev.mono hF ?_)
      intro r325 h326 hF
      obtain ⟨x327, rfl, hF⟩ := hF
      refine m_aload_n dL_law_1108 rfl ?_
      refine m_aload_n dL_law_1109 rfl ?_
      refine m_iload_n dL_law_1110 rfl ?_
      refine m_iconst dL_law_1111 ki_1 ?_
      refine m_iadd dL_law_1112 ?_
      obtain ⟨x328, e, hF⟩ := hF
      refine s_iald dL_law_1113 e ?_
      obtain ⟨fs332, e, hF⟩ := hF
      refine m_virtual (as := [.int x328]) (rest := [.int x327]) cv_L_113_11 e dL_law_1114 rfl rfl (Nat.le_of_ble_eq_true rfl) (Nat.le_of_eq (Nat.zero_add _)) (Nat.le_of_eq (Nat.zero_add _)) (b1 := (0, 0)) (b2 := b) (Ev.mono hF ?_)
      intro r329 h330 hF
      obtain ⟨x331, rfl, hF⟩ := hF
      refine m_icmp_eq 1245 dL_law_1117 (by decide) (fun c => ?_) (fun c => ?_)
      · replace hF := hF.1 c
        refine m_iinc (v := x_3 + 6) (ls2 := [some (.ref 0), some (.ref r_1), some (.ref r_2), some (.int (x_3 + 6))]) dL_law_1245 (by decide) rfl (congrArg (_ + ·) ki_6) rfl ?_
        refine m_goto 18 dL_law_1248 (by decide) ?_
        exact hF
      · replace hF := hF.2 c
        refine m_iconst dL_law_1120 ki_0 ?_
        exact m_ireturn dL_law_1121 (Or.inl rfl) hF
    replace hF := hF.2
    by_cases e24 : (x2 &&& 31) = 24
    · replace hF := hF.1 e24
      refine m_tableIn 1122 dL_law_33 (by rw [e24]; decide) (by rw [e24]; decide) (off := 1089) (by rw [e24]; rfl) (by decide) ?_
      refine m_aload_n dL_law_1122 rfl ?_
      refine m_aload_n dL_law_1123 rfl ?_
      refine m_iload_n dL_law_1124 rfl ?_
      refine m_iconst dL_law_1125 ki_1 ?_
      refine m_iadd dL_law_1126 ?_
      obtain ⟨x334, e, hF⟩ := hF
      refine s_iald dL_law_1127 e ?_
      refine m_aload_n dL_law_1128 rfl ?_
      refine m_iload_n dL_law_1129 rfl ?_
      refine m_iconst dL_law_1130 ki_2 ?_
      refine m_iadd dL_law_1131 ?_
      obtain ⟨x335, e, hF⟩ := hF
      refine s_iald dL_law_1132 e ?_
      refine m_aload_n dL_law_1133 rfl ?_
      refine m_iload_n dL_law_1134 rfl ?_
      refine m_iconst dL_law_1135 ki_3 ?_
      refine m_iadd dL_law_1136 ?_
      obtain ⟨x336, e, hF⟩ := hF
      refine s_iald dL_law_1137 e ?_
      obtain ⟨fs347, e, hF⟩ := hF
      refine m_virtual (as := [.int x334, .int x335, .int x336]) (rest := []) cv_L_114_10 e dL_law_1138 rfl rfl (Nat.le_of_ble_eq_true rfl) (Nat.le_of_eq (Nat.zero_add _)) (Nat.le_of_eq (Nat.zero_add _)) (b1 := (0, 0)) (b2 := b) (Ev.mono hF ?_)
      intro r337 h338 hF
      obtain ⟨y339, rfl, hF⟩ := hF
      refine m_aload_n dL_law_1141 rfl ?_
      refine m_aload_n dL_law_1142 rfl ?_
      refine m_iload_n dL_law_1143 rfl ?_
      refine m_iconst dL_law_1144 ki_1 ?_
      refine m_iadd dL_law_1145 ?_
      obtain ⟨x340, e, hF⟩ := hF
      refine s_iald dL_law_1146 e ?_
      refine m_aload_n dL_law_1147 rfl ?_
      refine m_iload_n dL_law_1148 rfl ?_
      refine m_iconst dL_law_1149 ki_2 ?_
      refine m_iadd dL_law_1150 ?_
      obtain ⟨x341, e, hF⟩ := hF
      refine s_iald dL_law_1151 e ?_
      refine m_aload_n dL_law_1152 rfl ?_
      refine m_iload_n dL_law_1153 rfl ?_
      refine m_iconst dL_law_1154 ki_3 ?_
      refine m_iadd dL_law_1155 ?_
      obtain ⟨x342, e, hF⟩ := hF
      refine s_iald dL_law_1156 e ?_
      obtain ⟨fs346, e, hF⟩ := hF
      refine m_virtual (as := [.int x340, .int x341, .int x342]) (rest := [.long y339]) cv_L_118_11 e dL_law_1157 rfl rfl (Nat.le_of_ble_eq_true rfl) (Nat.le_of_eq (Nat.zero_add _)) (Nat.le_of_eq (Nat.zero_add _)) (b1 := (0, 0)) (b2 := b) (Ev.mono hF ?_)
      intro r343 h344 hF
      obtain ⟨y345, rfl, hF⟩ := hF
      refine m_lcmp dL_law_1160 ?_
      refine m_if_eq 1245 dL_law_1161 (by decide) (fun c => ?_) (fun c => ?_)
      · replace hF := hF.1 c
        refine m_iinc (v := x_3 + 6) (ls2 := [some (.ref 0), some (.ref r_1), some (.ref r_2), some (.int (x_3 + 6))]) dL_law_1245 (by decide) rfl (congrArg (_ + ·) ki_6) rfl ?_
        refine m_goto 18 dL_law_1248 (by decide) ?_
        exact hF
      · replace hF := hF.2 c
        refine m_iconst dL_law_1164 ki_0 ?_
        exact m_ireturn dL_law_1165 (Or.inl rfl) hF
    replace hF := hF.2
    by_cases e25 : (x2 &&& 31) = 25
    · replace hF := hF.1 e25
      refine m_tableIn 1166 dL_law_33 (by rw [e25]; decide) (by rw [e25]; decide) (off := 1133) (by rw [e25]; rfl) (by decide) ?_
      refine m_aload_n dL_law_1166 rfl ?_
      refine m_aload_n dL_law_1167 rfl ?_
      refine m_iload_n dL_law_1168 rfl ?_
      refine m_iconst dL_law_1169 ki_1 ?_
      refine m_iadd dL_law_1170 ?_
      obtain ⟨x348, e, hF⟩ := hF
      refine s_iald dL_law_1171 e ?_
      refine m_aload_n dL_law_1172 rfl ?_
      refine m_iload_n dL_law_1173 rfl ?_
      refine m_iconst dL_law_1174 ki_2 ?_
      refine m_iadd dL_law_1175 ?_
      obtain ⟨x349, e, hF⟩ := hF
      refine s_iald dL_law_1176 e ?_
      refine m_aload_n dL_law_1177 rfl ?_
      refine m_iload_n dL_law_1178 rfl ?_
      refine m_iconst dL_law_1179 ki_3 ?_
      refine m_iadd dL_law_1180 ?_
      obtain ⟨x350, e, hF⟩ := hF
      refine s_iald dL_law_1181 e ?_
      obtain ⟨fs361, e, hF⟩ := hF
      refine m_virtual (as := [.int x348, .int x349, .int x350]) (rest := []) cv_L_119_10 e dL_law_1182 rfl rfl (Nat.le_of_ble_eq_true rfl) (Nat.le_of_eq (Nat.zero_add _)) (Nat.le_of_eq (Nat.zero_add _)) (b1 := (0, 0)) (b2 := b) (Ev.mono hF ?_)
      intro r351 h352 hF
      obtain ⟨x353, rfl, hF⟩ := hF
      refine m_aload_n dL_law_1185 rfl ?_
      refine m_aload_n dL_law_1186 rfl ?_
      refine m_iload_n dL_law_1187 rfl ?_
      refine m_iconst dL_law_1188 ki_1 ?_
      refine m_iadd dL_law_1189 ?_
      obtain ⟨x354, e, hF⟩ := hF
      refine s_iald dL_law_1190 e ?_
      refine m_aload_n dL_law_1191 rfl ?_
      refine m_iload_n dL_law_1192 rfl ?_
      refine m_iconst dL_law_1193 ki_2 ?_
      refine m_iadd dL_law_1194 ?_
      obtain ⟨x355, e, hF⟩ := hF
      refine s_iald dL_law_1195 e ?_
      refine m_aload_n dL_law_1196 rfl ?_
      refine m_iload_n dL_law_1197 rfl ?_
      refine m_iconst dL_law_1198 ki_3 ?_
      refine m_iadd dL_law_1199 ?_
      obtain ⟨x356, e, hF⟩ := hF
      refine s_iald dL_law_1200 e ?_
      obtain ⟨fs360, e, hF⟩ := hF
      refine m_virtual (as := [.int x354, .int x355, .int x356]) (rest := [.int x353]) cv_L_122_11 e dL_law_1201 rfl rfl (Nat.le_of_ble_eq_true rfl) (Nat.le_of_eq (Nat.zero_add _)) (Nat.le_of_eq (Nat.zero_add _)) (b1 := (0, 0)) (b2 := b) (Ev.mono hF ?_)
      intro r357 h358 hF
      obtain ⟨x359, rfl, hF⟩ := hF
      refine m_icmp_eq 1245 dL_law_1204 (by decide) (fun c => ?_) (fun c => ?_)
      · replace hF := hF.1 c
        refine m_iinc (v := x_3 + 6) (ls2 := [some (.ref 0), some (.ref r_1), some (.ref r_2), some (.int (x_3 + 6))]) dL_law_1245 (by decide) rfl (congrArg (_ + ·) ki_6) rfl ?_
        refine m_goto 18 dL_law_1248 (by decide) ?_
        exact hF
      · replace hF := hF.2 c
        refine m_iconst dL_law_1207 ki_0 ?_
        exact m_ireturn dL_law_1208 (Or.inl rfl) hF
    replace hF := hF.2
    by_cases e26 : (x2 &&& 31) = 26
    · replace hF := hF.1 e26
      refine m_tableIn 1209 dL_law_33 (by rw [e26]; decide) (by rw [e26]; decide) (off := 1176) (by rw [e26]; rfl) (by decide) ?_
      refine m_aload_n dL_law_1209 rfl ?_
      refine m_aload_n dL_law_1210 rfl ?_
      refine m_iload_n dL_law_1211 rfl ?_
      refine m_iconst dL_law_1212 ki_1 ?_
      refine m_iadd dL_law_1213 ?_
      obtain ⟨x362, e, hF⟩ := hF
      refine s_iald dL_law_1214 e ?_
      obtain ⟨fs371, e, hF⟩ := hF
      refine m_virtual (as := [.int x362]) (rest := []) cv_L_123_10 e dL_law_1215 rfl rfl (Nat.le_of_ble_eq_true rfl) (Nat.le_of_eq (Nat.zero_add _)) (Nat.le_of_eq (Nat.zero_add _)) (b1 := (0, 0)) (b2 := b) (Ev.mono hF ?_)
      intro r363 h364 hF
      obtain ⟨x365, rfl, hF⟩ := hF
      refine m_aload_n dL_law_1218 rfl ?_
      refine m_aload_n dL_law_1219 rfl ?_
      refine m_iload_n dL_law_1220 rfl ?_
      refine m_iconst dL_law_1221 ki_1 ?_
      refine m_iadd dL_law_1222 ?_
      obtain ⟨x366, e, hF⟩ := hF
      refine s_iald dL_law_1223 e ?_
      obtain ⟨fs370, e, hF⟩ := hF
      refine m_virtual (as := [.int x366]) (rest := [.int x365]) cv_L_126_11 e dL_law_1224 rfl rfl (Nat.le_of_ble_eq_true rfl) (Nat.le_of_eq (Nat.zero_add _)) (Nat.le_of_eq (Nat.zero_add _)) (b1 := (0, 0)) (b2 := b) (Ev.mono hF ?_)
      intro r367 h368 hF
      obtain ⟨x369, rfl, hF⟩ := hF
      refine m_icmp_eq 1245 dL_law_1227 (by decide) (fun c => ?_) (fun c => ?_)
      · replace hF := hF.1 c
        refine m_iinc (v := x_3 + 6) (ls2 := [some (.ref 0), some (.ref r_1), some (.ref r_2), some (.int (x_3 + 6))]) dL_law_1245 (by decide) rfl (congrArg (_ + ·) ki_6) rfl ?_
        refine m_goto 18 dL_law_1248 (by decide) ?_
        exact hF
      · replace hF := hF.2 c
        refine m_iconst dL_law_1230 ki_0 ?_
        exact m_ireturn dL_law_1231 (Or.inl rfl) hF
    replace hF := hF.2
    by_cases e27 : (x2 &&& 31) = 27
    · replace hF := hF.1 e27
      refine m_tableIn 1232 dL_law_33 (by rw [e27]; decide) (by rw [e27]; decide) (off := 1199) (by rw [e27]; rfl) (by decide) ?_
      refine m_aload_n dL_law_1232 rfl ?_
      obtain ⟨fs379, e, hF⟩ := hF
      refine m_virtual (as := []) (rest := []) cv_L_127_10 e dL_law_1233 rfl rfl (Nat.le_of_ble_eq_true rfl) (Nat.le_of_eq (Nat.zero_add _)) (Nat.le_of_eq (Nat.zero_add _)) (b1 := (0, 0)) (b2 := b) (Ev.mono hF ?_)
      intro r372 h373 hF
      obtain ⟨x374, rfl, hF⟩ := hF
      refine m_aload_n dL_law_1236 rfl ?_
      obtain ⟨fs378, e, hF⟩ := hF
      refine m_virtual (as := []) (rest := [.int x374]) cv_L_131_11 e dL_law_1237 rfl rfl (Nat.le_of_ble_eq_true rfl) (Nat.le_of_eq (Nat.zero_add _)) (Nat.le_of_eq (Nat.zero_add _)) (b1 := (0, 0)) (b2 := b) (Ev.mono hF ?_)
      intro r375 h376 hF
      obtain ⟨x377, rfl, hF⟩ := hF
      refine m_icmp_eq 1245 dL_law_1240 (by decide) (fun c => ?_) (fun c => ?_)
      · replace hF := hF.1 c
        refine m_iinc (v := x_3 + 6) (ls2 := [some (.ref 0), some (.ref r_1), some (.ref r_2), some (.int (x_3 + 6))]) dL_law_1245 (by decide) rfl (congrArg (_ + ·) ki_6) rfl ?_
        refine m_goto 18 dL_law_1248 (by decide) ?_
        exact hF
      · replace hF := hF.2 c
        refine m_iconst dL_law_1243 ki_0 ?_
        exact m_ireturn dL_law_1244 (Or.inl rfl) hF
    replace hF := hF.2
    replace hF := hF e0 e1 e2 e3 e4 e5 e6 e7 e8 e9 e10 e11 e12 e13 e14 e15 e16 e17 e18 e19 e20 e21 e22 e23 e24 e25 e26 e27
    refine m_tableOut 1245 dL_law_33 (m_swout (x := x2 &&& 31) 0 28 (by intro j hj; match j, hj with | 0, _ => exact e0 | 1, _ => exact e1 | 2, _ => exact e2 | 3, _ => exact e3 | 4, _ => exact e4 | 5, _ => exact e5 | 6, _ => exact e6 | 7, _ => exact e7 | 8, _ => exact e8 | 9, _ => exact e9 | 10, _ => exact e10 | 11, _ => exact e11 | 12, _ => exact e12 | 13, _ => exact e13 | 14, _ => exact e14 | 15, _ => exact e15 | 16, _ => exact e16 | 17, _ => exact e17 | 18, _ => exact e18 | 19, _ => exact e19 | 20, _ => exact e20 | 21, _ => exact e21 | 22, _ => exact e22 | 23, _ => exact e23 | 24, _ => exact e24 | 25, _ => exact e25 | 26, _ => exact e26 | 27, _ => exact e27 | (n + 28), hj => exact absurd hj (by omega))) (by decide) ?_
    refine m_iinc (v := x_3 + 6) (ls2 := [some (.ref 0), some (.ref r_1), some (.ref r_2), some (.int (x_3 + 6))]) dL_law_1245 (by decide) rfl (congrArg (_ + ·) ki_6) rfl ?_
    refine m_goto 18 dL_law_1248 (by decide) ?_
    exact hF

/-! constants, classes, virtual calls of several classes -/
theorem kb_10 : (Int8.ofInt 10).toInt32 = 10 := by decide
theorem kb_100 : (Int8.ofInt 100).toInt32 = 100 := by decide
theorem kb_11 : (Int8.ofInt 11).toInt32 = 11 := by decide
theorem kb_12 : (Int8.ofInt 12).toInt32 = 12 := by decide
theorem kb_13 : (Int8.ofInt 13).toInt32 = 13 := by decide
theorem kb_14 : (Int8.ofInt 14).toInt32 = 14 := by decide
theorem kb_15 : (Int8.ofInt 15).toInt32 = 15 := by decide
theorem kb_16 : (Int8.ofInt 16).toInt32 = 16 := by decide
theorem kb_20 : (Int8.ofInt 20).toInt32 = 20 := by decide
theorem kb_21 : (Int8.ofInt 21).toInt32 = 21 := by decide
theorem kb_22 : (Int8.ofInt 22).toInt32 = 22 := by decide
theorem kb_42 : (Int8.ofInt 42).toInt32 = 42 := by decide
theorem kb_43 : (Int8.ofInt 43).toInt32 = 43 := by decide
theorem kb_44 : (Int8.ofInt 44).toInt32 = 44 := by decide
theorem kb_6 : (Int8.ofInt 6).toInt32 = 6 := by decide
theorem kb_63 : (Int8.ofInt 63).toInt32 = 63 := by decide
theorem kb_66 : (Int8.ofInt 66).toInt32 = 66 := by decide
theorem kb_7 : (Int8.ofInt 7).toInt32 = 7 := by decide
theorem kb_8 : (Int8.ofInt 8).toInt32 = 8 := by decide
theorem kb_9 : (Int8.ofInt 9).toInt32 = 9 := by decide
theorem kb_96 : (Int8.ofInt 96).toInt32 = 96 := by decide
theorem ki_0 : Int32.ofInt 0 = 0 := by decide
theorem ki_1 : Int32.ofInt 1 = 1 := by decide
theorem ki_2 : Int32.ofInt 2 = 2 := by decide
theorem ki_3 : Int32.ofInt 3 = 3 := by decide
theorem ki_4 : Int32.ofInt 4 = 4 := by decide
theorem ki_5 : Int32.ofInt 5 = 5 := by decide
theorem ki_m1 : Int32.ofInt (-1) = (-1) := by decide
theorem kl_0 : Int64.ofNat ((0 : Fin 2) : Nat) = 0 := by decide
theorem kl_1 : Int64.ofNat ((1 : Fin 2) : Nat) = 1 := by decide
theorem ks_1056 : (Int16.ofInt 1056).toInt32 = 1056 := by decide
theorem ks_1152 : (Int16.ofInt 1152).toInt32 = 1152 := by decide
theorem ks_1248 : (Int16.ofInt 1248).toInt32 = 1248 := by decide
theorem ks_144 : (Int16.ofInt 144).toInt32 = 144 := by decide
theorem ks_1728 : (Int16.ofInt 1728).toInt32 = 1728 := by decide
theorem ks_2400 : (Int16.ofInt 2400).toInt32 = 2400 := by decide
theorem ks_28800 : (Int16.ofInt 28800).toInt32 = 28800 := by decide
theorem ks_300 : (Int16.ofInt 300).toInt32 = 300 := by decide
theorem ks_420 : (Int16.ofInt 420).toInt32 = 420 := by decide
theorem ks_430 : (Int16.ofInt 430).toInt32 = 430 := by decide
theorem ks_768 : (Int16.ofInt 768).toInt32 = 768 := by decide
theorem ks_960 : (Int16.ofInt 960).toInt32 = 960 := by decide
theorem pn_X0 : plainName RX0 = true := by decide +kernel
theorem nl_X0 : RX0 ≠ RL := by decide +kernel
theorem pn_X1 : plainName RX1 = true := by decide +kernel
theorem nl_X1 : RX1 ≠ RL := by decide +kernel
theorem pn_X2 : plainName RX2 = true := by decide +kernel
theorem nl_X2 : RX2 ≠ RL := by decide +kernel
theorem pn_X3 : plainName RX3 = true := by decide +kernel
theorem nl_X3 : RX3 ≠ RL := by decide +kernel
theorem pn_X4 : plainName RX4 = true := by decide +kernel
theorem nl_X4 : RX4 ≠ RL := by decide +kernel
theorem pn_X5 : plainName RX5 = true := by decide +kernel
theorem nl_X5 : RX5 ≠ RL := by decide +kernel
theorem pn_X6 : plainName RX6 = true := by decide +kernel
theorem nl_X6 : RX6 ≠ RL := by decide +kernel
theorem pn_X7 : plainName RX7 = true := by decide +kernel
theorem nl_X7 : RX7 ≠ RL := by decide +kernel
theorem pn_X8 : plainName RX8 = true := by decide +kernel
theorem nl_X8 : RX8 ≠ RL := by decide +kernel
theorem pn_X9 : plainName RX9 = true := by decide +kernel
theorem nl_X9 : RX9 ≠ RL := by decide +kernel
theorem pn_X10 : plainName RX10 = true := by decide +kernel
theorem nl_X10 : RX10 ≠ RL := by decide +kernel
theorem pn_X11 : plainName RX11 = true := by decide +kernel
theorem nl_X11 : RX11 ≠ RL := by decide +kernel
theorem pn_X12 : plainName RX12 = true := by decide +kernel
theorem nl_X12 : RX12 ≠ RL := by decide +kernel
theorem pn_J6 : plainName RJ6 = true := by decide +kernel
theorem nl_J6 : RJ6 ≠ RL := by decide +kernel
theorem pn_J13 : plainName RJ13 = true := by decide +kernel
theorem nl_J13 : RJ13 ≠ RL := by decide +kernel
theorem pn_J7 : plainName RJ7 = true := by decide +kernel
theorem nl_J7 : RJ7 ≠ RL := by decide +kernel
theorem cw_X1_65 : ∀ ci ∈ [0, 1, 4, 8, 9], m_cV RX1 65 ci MX1_noTurn 1 := List.forall_mem_cons.mpr ⟨cv_X1_65_0, List.forall_mem_cons.mpr ⟨cv_X1_65_1, List.forall_mem_cons.mpr ⟨cv_X1_65_4, List.forall_mem_cons.mpr ⟨cv_X1_65_8, List.forall_mem_cons.mpr ⟨cv_X1_65_9, fun _ h => absurd h List.not_mem_nil⟩⟩⟩⟩⟩
theorem cw_X1_72 : ∀ ci ∈ [0, 1, 4, 8, 9], m_cV RX1 72 ci MX1_turnAt 1 := List.forall_mem_cons.mpr ⟨cv_X1_72_0, List.forall_mem_cons.mpr ⟨cv_X1_72_1, List.forall_mem_cons.mpr ⟨cv_X1_72_4, List.forall_mem_cons.mpr ⟨cv_X1_72_8, List.forall_mem_cons.mpr ⟨cv_X1_72_9, fun _ h => absurd h List.not_mem_nil⟩⟩⟩⟩⟩
theorem cw_X1_85 : ∀ ci ∈ [0, 1, 4, 8, 9], m_cV RX1 85 ci MX1_rounds 1 := List.forall_mem_cons.mpr ⟨cv_X1_85_0, List.forall_mem_cons.mpr ⟨cv_X1_85_1, List.forall_mem_cons.mpr ⟨cv_X1_85_4, List.forall_mem_cons.mpr ⟨cv_X1_85_8, List.forall_mem_cons.mpr ⟨cv_X1_85_9, fun _ h => absurd h List.not_mem_nil⟩⟩⟩⟩⟩
theorem cw_X1_106 : ∀ ci ∈ [0, 1, 4, 8, 9], m_cV RX1 106 ci MX1_narrowed 2 := List.forall_mem_cons.mpr ⟨cv_X1_106_0, List.forall_mem_cons.mpr ⟨cv_X1_106_1, List.forall_mem_cons.mpr ⟨cv_X1_106_4, List.forall_mem_cons.mpr ⟨cv_X1_106_8, List.forall_mem_cons.mpr ⟨cv_X1_106_9, fun _ h => absurd h List.not_mem_nil⟩⟩⟩⟩⟩
theorem cw_X1_114 : ∀ ci ∈ [0, 1, 4, 8, 9], m_cV RX1 114 ci MX1_blockLabels 2 := List.forall_mem_cons.mpr ⟨cv_X1_114_0, List.forall_mem_cons.mpr ⟨cv_X1_114_1, List.forall_mem_cons.mpr ⟨cv_X1_114_4, List.forall_mem_cons.mpr ⟨cv_X1_114_8, List.forall_mem_cons.mpr ⟨cv_X1_114_9, fun _ h => absurd h List.not_mem_nil⟩⟩⟩⟩⟩
theorem cw_X10_17 : ∀ ci ∈ [0, 4, 9], m_cV RX10 17 ci MX1_rounds 1 := List.forall_mem_cons.mpr ⟨cv_X10_17_0, List.forall_mem_cons.mpr ⟨cv_X10_17_4, List.forall_mem_cons.mpr ⟨cv_X10_17_9, fun _ h => absurd h List.not_mem_nil⟩⟩⟩
theorem cw_X11_132 : ∀ ci ∈ [0, 1, 4, 8, 9], m_cV RX11 132 ci MX1_partAlone 1 := List.forall_mem_cons.mpr ⟨cv_X11_132_0, List.forall_mem_cons.mpr ⟨cv_X11_132_1, List.forall_mem_cons.mpr ⟨cv_X11_132_4, List.forall_mem_cons.mpr ⟨cv_X11_132_8, List.forall_mem_cons.mpr ⟨cv_X11_132_9, fun _ h => absurd h List.not_mem_nil⟩⟩⟩⟩⟩
theorem cw_X11_136 : ∀ ci ∈ [0, 1, 4, 8, 9], m_cV RX11 136 ci MX1_whole 0 := List.forall_mem_cons.mpr ⟨cv_X11_136_0, List.forall_mem_cons.mpr ⟨cv_X11_136_1, List.forall_mem_cons.mpr ⟨cv_X11_136_4, List.forall_mem_cons.mpr ⟨cv_X11_136_8, List.forall_mem_cons.mpr ⟨cv_X11_136_9, fun _ h => absurd h List.not_mem_nil⟩⟩⟩⟩⟩
theorem cw_X11_159 : ∀ ci ∈ [0, 1, 4, 8, 9], m_cV RX11 159 ci MX1_noSheet 1 := List.forall_mem_cons.mpr ⟨cv_X11_159_0, List.forall_mem_cons.mpr ⟨cv_X11_159_1, List.forall_mem_cons.mpr ⟨cv_X11_159_4, List.forall_mem_cons.mpr ⟨cv_X11_159_8, List.forall_mem_cons.mpr ⟨cv_X11_159_9, fun _ h => absurd h List.not_mem_nil⟩⟩⟩⟩⟩
theorem cw_X11_162 : ∀ ci ∈ [0, 1, 4, 8, 9], m_cV RX11 162 ci MX1_ofBlocks 2 := List.forall_mem_cons.mpr ⟨cv_X11_162_0, List.forall_mem_cons.mpr ⟨cv_X11_162_1, List.forall_mem_cons.mpr ⟨cv_X11_162_4, List.forall_mem_cons.mpr ⟨cv_X11_162_8, List.forall_mem_cons.mpr ⟨cv_X11_162_9, fun _ h => absurd h List.not_mem_nil⟩⟩⟩⟩⟩
theorem cw_X11_166 : ∀ ci ∈ [0, 1, 4, 8, 9], m_cV RX11 166 ci MX1_ledPast 2 := List.forall_mem_cons.mpr ⟨cv_X11_166_0, List.forall_mem_cons.mpr ⟨cv_X11_166_1, List.forall_mem_cons.mpr ⟨cv_X11_166_4, List.forall_mem_cons.mpr ⟨cv_X11_166_8, List.forall_mem_cons.mpr ⟨cv_X11_166_9, fun _ h => absurd h List.not_mem_nil⟩⟩⟩⟩⟩
theorem cw_X11_170 : ∀ ci ∈ [0, 1, 4, 8, 9], m_cV RX11 170 ci MX1_mirror 0 := List.forall_mem_cons.mpr ⟨cv_X11_170_0, List.forall_mem_cons.mpr ⟨cv_X11_170_1, List.forall_mem_cons.mpr ⟨cv_X11_170_4, List.forall_mem_cons.mpr ⟨cv_X11_170_8, List.forall_mem_cons.mpr ⟨cv_X11_170_9, fun _ h => absurd h List.not_mem_nil⟩⟩⟩⟩⟩
theorem cw_X11_177 : ∀ ci ∈ [0, 1, 4, 8, 9], m_cV RX11 177 ci MX1_laidOver 1 := List.forall_mem_cons.mpr ⟨cv_X11_177_0, List.forall_mem_cons.mpr ⟨cv_X11_177_1, List.forall_mem_cons.mpr ⟨cv_X11_177_4, List.forall_mem_cons.mpr ⟨cv_X11_177_8, List.forall_mem_cons.mpr ⟨cv_X11_177_9, fun _ h => absurd h List.not_mem_nil⟩⟩⟩⟩⟩
theorem cw_X11_185 : ∀ ci ∈ [0, 1, 4, 8, 9], m_cV RX11 185 ci MX1_noTurn 1 := List.forall_mem_cons.mpr ⟨cv_X11_185_0, List.forall_mem_cons.mpr ⟨cv_X11_185_1, List.forall_mem_cons.mpr ⟨cv_X11_185_4, List.forall_mem_cons.mpr ⟨cv_X11_185_8, List.forall_mem_cons.mpr ⟨cv_X11_185_9, fun _ h => absurd h List.not_mem_nil⟩⟩⟩⟩⟩
theorem cw_X11_188 : ∀ ci ∈ [0, 1, 4, 8, 9], m_cV RX11 188 ci MX1_turnAt 1 := List.forall_mem_cons.mpr ⟨cv_X11_188_0, List.forall_mem_cons.mpr ⟨cv_X11_188_1, List.forall_mem_cons.mpr ⟨cv_X11_188_4, List.forall_mem_cons.mpr ⟨cv_X11_188_8, List.forall_mem_cons.mpr ⟨cv_X11_188_9, fun _ h => absurd h List.not_mem_nil⟩⟩⟩⟩⟩
theorem cw_X11_201 : ∀ ci ∈ [0, 1, 4, 8, 9], m_cV RX11 201 ci MX1_blockLabels 2 := List.forall_mem_cons.mpr ⟨cv_X11_201_0, List.forall_mem_cons.mpr ⟨cv_X11_201_1, List.forall_mem_cons.mpr ⟨cv_X11_201_4, List.forall_mem_cons.mpr ⟨cv_X11_201_8, List.forall_mem_cons.mpr ⟨cv_X11_201_9, fun _ h => absurd h List.not_mem_nil⟩⟩⟩⟩⟩
theorem cw_X11_218 : ∀ ci ∈ [0, 1, 4, 8, 9], m_cV RX11 218 ci MX1_noStep 1 := List.forall_mem_cons.mpr ⟨cv_X11_218_0, List.forall_mem_cons.mpr ⟨cv_X11_218_1, List.forall_mem_cons.mpr ⟨cv_X11_218_4, List.forall_mem_cons.mpr ⟨cv_X11_218_8, List.forall_mem_cons.mpr ⟨cv_X11_218_9, fun _ h => absurd h List.not_mem_nil⟩⟩⟩⟩⟩
theorem cw_X11_221 : ∀ ci ∈ [0, 1, 4, 8, 9], m_cV RX11 221 ci MX1_stepped 2 := List.forall_mem_cons.mpr ⟨cv_X11_221_0, List.forall_mem_cons.mpr ⟨cv_X11_221_1, List.forall_mem_cons.mpr ⟨cv_X11_221_4, List.forall_mem_cons.mpr ⟨cv_X11_221_8, List.forall_mem_cons.mpr ⟨cv_X11_221_9, fun _ h => absurd h List.not_mem_nil⟩⟩⟩⟩⟩
def tg_X11_224 (ci : Nat) : mM := if ci = 0 then MX0_kindNumber else if ci = 1 then MX1_kindNumber else if ci = 4 then MX4_kindNumber else if ci = 8 then MX9_kindNumber else MX10_kindNumber
theorem cw_X11_224 : ∀ ci ∈ [0, 1, 4, 8, 9], m_cV RX11 224 ci (tg_X11_224 ci) 0 := List.forall_mem_cons.mpr ⟨cv_X11_224_0, List.forall_mem_cons.mpr ⟨cv_X11_224_1, List.forall_mem_cons.mpr ⟨cv_X11_224_4, List.forall_mem_cons.mpr ⟨cv_X11_224_8, List.forall_mem_cons.mpr ⟨cv_X11_224_9, fun _ h => absurd h List.not_mem_nil⟩⟩⟩⟩⟩
def tg_X11_232 (ci : Nat) : mM := if ci = 0 then MX0_sizeAsked else if ci = 1 then MX1_sizeAsked else if ci = 4 then MX4_sizeAsked else if ci = 8 then MX9_sizeAsked else MX10_sizeAsked
theorem cw_X11_232 : ∀ ci ∈ [0, 1, 4, 8, 9], m_cV RX11 232 ci (tg_X11_232 ci) 1 := List.forall_mem_cons.mpr ⟨cv_X11_232_0, List.forall_mem_cons.mpr ⟨cv_X11_232_1, List.forall_mem_cons.mpr ⟨cv_X11_232_4, List.forall_mem_cons.mpr ⟨cv_X11_232_8, List.forall_mem_cons.mpr ⟨cv_X11_232_9, fun _ h => absurd h List.not_mem_nil⟩⟩⟩⟩⟩
def tg_X11_236 (ci : Nat) : mM := if ci = 0 then MX10_markAsked else if ci = 1 then MX1_markAsked else if ci = 4 then MX4_markAsked else if ci = 8 then MX1_markAsked else MX10_markAsked
theorem cw_X11_236 : ∀ ci ∈ [0, 1, 4, 8, 9], m_cV RX11 236 ci (tg_X11_236 ci) 1 := List.forall_mem_cons.mpr ⟨cv_X11_236_0, List.forall_mem_cons.mpr ⟨cv_X11_236_1, List.forall_mem_cons.mpr ⟨cv_X11_236_4, List.forall_mem_cons.mpr ⟨cv_X11_236_8, List.forall_mem_cons.mpr ⟨cv_X11_236_9, fun _ h => absurd h List.not_mem_nil⟩⟩⟩⟩⟩
theorem cw_X11_267 : ∀ ci ∈ [0, 1, 4, 8, 9], m_cV RX11 267 ci MX1_holes 0 := List.forall_mem_cons.mpr ⟨cv_X11_267_0, List.forall_mem_cons.mpr ⟨cv_X11_267_1, List.forall_mem_cons.mpr ⟨cv_X11_267_4, List.forall_mem_cons.mpr ⟨cv_X11_267_8, List.forall_mem_cons.mpr ⟨cv_X11_267_9, fun _ h => absurd h List.not_mem_nil⟩⟩⟩⟩⟩
theorem fq0_X1_7 : ∀ ci ∈ [0, 1, 4, 8, 9], m_pl RX1 7 0 ci true ∧ ∀ v : Int32, m_vfit (m_tyOf ci 0) (.int v) := List.forall_mem_cons.mpr ⟨⟨fp_X1_7_0, fun _ => trivial⟩, List.forall_mem_cons.mpr ⟨⟨fp_X1_7_1, fun _ => trivial⟩, List.forall_mem_cons.mpr ⟨⟨fp_X1_7_4, fun _ => trivial⟩, List.forall_mem_cons.mpr ⟨⟨fp_X1_7_8, fun _ => trivial⟩, List.forall_mem_cons.mpr ⟨⟨fp_X1_7_9, fun _ => trivial⟩, fun _ h => absurd h List.not_mem_nil⟩⟩⟩⟩⟩
theorem fq_X1_7 (ci : Nat) (h : ci ∈ [0, 1, 4, 8, 9]) {v : Int32} : m_pl RX1 7 0 ci true ∧ m_vfit (m_tyOf ci 0) (.int v) := ⟨(fq0_X1_7 ci h).1, (fq0_X1_7 ci h).2 v⟩
theorem fq0_X1_13 : ∀ ci ∈ [0, 1, 4, 8, 9], m_pl RX1 13 1 ci true ∧ ∀ v : Nat, m_vfit (m_tyOf ci 1) (.ref v) := List.forall_mem_cons.mpr ⟨⟨fp_X1_13_0, fun _ => trivial⟩, List.forall_mem_cons.mpr ⟨⟨fp_X1_13_1, fun _ => trivial⟩, List.forall_mem_cons.mpr ⟨⟨fp_X1_13_4, fun _ => trivial⟩, List.forall_mem_cons.mpr ⟨⟨fp_X1_13_8, fun _ => trivial⟩, List.forall_mem_cons.mpr ⟨⟨fp_X1_13_9, fun _ => trivial⟩, fun _ h => absurd h List.not_mem_nil⟩⟩⟩⟩⟩
theorem fq_X1_13 (ci : Nat) (h : ci ∈ [0, 1, 4, 8, 9]) {v : Nat} : m_pl RX1 13 1 ci true ∧ m_vfit (m_tyOf ci 1) (.ref v) := ⟨(fq0_X1_13 ci h).1, (fq0_X1_13 ci h).2 v⟩
theorem fq0_X1_17 : ∀ ci ∈ [0, 1, 4, 8, 9], m_pl RX1 17 2 ci true ∧ ∀ v : Int32, m_vfit (m_tyOf ci 2) (.int v) := List.forall_mem_cons.mpr ⟨⟨fp_X1_17_0, fun _ => trivial⟩, List.forall_mem_cons.mpr ⟨⟨fp_X1_17_1, fun _ => trivial⟩, List.forall_mem_cons.mpr ⟨⟨fp_X1_17_4, fun _ => trivial⟩, List.forall_mem_cons.mpr ⟨⟨fp_X1_17_8, fun _ => trivial⟩, List.forall_mem_cons.mpr ⟨⟨fp_X1_17_9, fun _ => trivial⟩, fun _ h => absurd h List.not_mem_nil⟩⟩⟩⟩⟩
theorem fq_X1_17 (ci : Nat) (h : ci ∈ [0, 1, 4, 8, 9]) {v : Int32} : m_pl RX1 17 2 ci true ∧ m_vfit (m_tyOf ci 2) (.int v) := ⟨(fq0_X1_17 ci h).1, (fq0_X1_17 ci h).2 v⟩
theorem c1_X12_105_11 : m_cV1 RX12 105 11 MX12_at 3 := ⟨_, rfl, cb_X12_at, wd_1016, wd_1014, wd_27⟩
theorem c1_X12_161_11 : m_cV1 RX12 161 11 MX12_backAt 3 := ⟨_, rfl, cb_X12_backAt, wd_1076, wd_1074, wd_38⟩
theorem m_swout {x : Int32} (lo n : Nat) (hb : ∀ j, j < n → x ≠ nI (lo + j)) (hn : lo + n < 2 ^ 31 := by decide) : x.toInt < (lo : Int) ∨ ((lo + n : Nat) : Int) - 1 < x.toInt := by
  rcases Int.lt_or_le x.toInt lo with h1 | h1
  · exact Or.inl h1
  · rcases Int.lt_or_le (((lo + n : Nat) : Int) - 1) x.toInt with h2 | h2
    · exact Or.inr h2
    · exfalso
      have h3 : x = nI (lo + (x.toInt.toNat - lo)) := by
        apply Int32.toInt_inj.mp
        rw [nI_toInt (by omega)]
        omega
      exact hb _ (by omega) h3
section CopyEq
variable {d : Nat} {b : Nat × Nat} {J : mJ} {pc : Nat} {ls : List (Option Value)} {st : List Value} {h : mH} {Q : Option Value → mH → Prop}
theorem m_copyeq {sp dp n : Int32} {a0 a1 ksp kdp kn : Nat} (es : sp = nI ksp) (ed : dp = nI kdp) (en : n = nI kn) (k : Wm d b J pc ls (.int (nI kn) :: .int (nI kdp) :: .ref a1 :: .int (nI ksp) :: .ref a0 :: st) h Q) : Wm d b J pc ls (.int n :: .int dp :: .ref a1 :: .int sp :: .ref a0 :: st) h Q := by
  rw [es, ed, en]
  exact k
end CopyEq

/-! the reference: shapes changed by a cut or a join, joins -/
/-- a list in a row -/
def RL' (f : Nat → Int32) (M : List Nat) : Prop := ∀ i, i < M.length → f i = nI (M.getD i 0)
theorem RL'.push {f : Nat → Int32} {M : List Nat} {x : Nat} (h : RL' f M) : RL' (upd f M.length (nI x)) (M ++ [x]) := by
  intro i hi
  rw [List.length_append] at hi
  have hi : i < M.length + 1 := hi
  by_cases e : i = M.length
  · rw [e]
    simp [upd]
  · have : (M ++ [x]).getD i 0 = M.getD i 0 := by
      rw [List.getD_eq_getElem?_getD, List.getD_eq_getElem?_getD, List.getElem?_append_left (by omega)]
    rw [this]
    simp only [upd, e, if_false]
    exact h i (by omega)
theorem getD_mid (P : List Nat) (c : Nat) (R : List Nat) : (P ++ c :: R).getD P.length 0 = c := by
  rw [List.getD_eq_getElem?_getD, List.getElem?_append_right (Nat.le_refl _)]
  simp
theorem getD_mid1 (P : List Nat) (c b : Nat) (R : List Nat) : (P ++ c :: b :: R).getD (P.length + 1) 0 = b := by
  rw [List.getD_eq_getElem?_getD, List.getElem?_append_right (by omega), show P.length + 1 - P.length = 1 by omega]
  rfl
theorem getD_in {M : List Nat} {i : Nat} (h : i < M.length) : M.getD i 0 ∈ M := by
  rw [List.getD_eq_getElem?_getD, List.getElem?_eq_getElem h]
  exact List.getElem_mem h
theorem RL'.swap {f : Nat → Int32} {P R : List Nat} {c b : Nat} (h : RL' f (P ++ c :: b :: R)) : RL' (upd (upd f (P.length + 1) (nI c)) P.length (nI b)) (P ++ b :: c :: R) := by
  intro i hi
  have hl : (P ++ b :: c :: R).length = (P ++ c :: b :: R).length := by simp
  by_cases e : i = P.length
  · rw [e, getD_mid]
    simp [upd]
  · by_cases e1 : i = P.length + 1
    · rw [e1, getD_mid1]
      simp [upd]
    · have : (P ++ b :: c :: R).getD i 0 = (P ++ c :: b :: R).getD i 0 := by
        rw [List.getD_eq_getElem?_getD, List.getD_eq_getElem?_getD]
        rcases Nat.lt_or_ge i P.length with w | w
        · rw [List.getElem?_append_left w, List.getElem?_append_left w]
        · rw [List.getElem?_append_right w, List.getElem?_append_right w]
          obtain ⟨j, hj⟩ : ∃ j, i - P.length = j + 2 := ⟨i - P.length - 2, by omega⟩
          rw [hj]
          rfl
      rw [this]
      simp only [upd, e, e1, if_false]
      exact h i (by omega)
theorem bp1_mem (a : Nat) : ∀ L v, v ∈ bp1 a L → v = a ∨ v ∈ L
  | [], v, h => Or.inl (by simpa [bp1] using h)
  | b :: r, v, h => by
    unfold bp1 at h
    split at h
    · rcases List.mem_cons.mp h with q | q
      · exact Or.inr (by simp [q])
      · rcases bp1_mem a r v q with q | q
        · exact Or.inl q
        · exact Or.inr (by simp [q])
    · rcases List.mem_cons.mp h with q | q
      · exact Or.inl q
      · rcases bp1_mem b r v q with q | q
        · exact Or.inr (by simp [q])
        · exact Or.inr (by simp [q])
theorem bps_mem : ∀ L v, v ∈ bps L → v ∈ L
  | [], v, h => h
  | a :: r, v, h => by
    rcases bp1_mem a r v h with q | q
    · simp [q]
    · simp [q]
section RefChanged
variable {d : Nat} {h : mH} {r : rst} {st : AS} {K : Option Value → mH → Prop}
theorem rchg_ev {n t out other one two ix : Nat} (o : RR h r) (hn : n < 11) (ht : t < (pT n).length) (S : FS r n ((pT n).length - 1)) (hc : chkT n t out other one two ix = true) (h20 : out ≤ 20 ∧ other ≤ 20 ∧ one ≤ 20 ∧ two ≤ 20) (hK : ∀ h' r', FR h h' → RR h' r' → ex [54] r r' → K (some (.int (nI ix))) h') : Ev d (0, 0) MX12_changed [.ref 34, .int (nI t), .int (nI out), .int (nI other), .int (nI one), .int (nI two)] h K := by
  obtain ⟨hix, hm10, hm20, hm2⟩ := chk_of hc
  obtain ⟨-, t42, -⟩ := tb_len n hn
  have hS : ∀ r', ex [54] r r' → r'.1.2.2.2 = nI (pT n).length ∧ ∀ s, s < (pT n).length → ∀ k, k < 10 → r'.2.1 53 (10 * s + k) = nI (lA n s k) := fun r' x => ⟨by rw [x.1, S.1, show (pT n).length - 1 + 1 = (pT n).length by omega], fun s hs k hk => by rw [x.at _ (by simp)]; exact S.2 s (by omega) k hk⟩
  -- the row that is it
  have srch : ∀ (M : List Nat), M = pA n ix → M.length ≤ 10 → ∀ h1 r1, FR h h1 → RR h1 r1 → ex [54] r r1 → RL' (r1.2.1 54) M → ∀ c s (v : Int32), s + c = (pT n).length → v = (if ix < s then nI ix else -1000000) → Wm d (0, 0) JX12_changed 221 [some (.ref 34), none, none, none, none, none, some (.int (nI M.length)), none, none, some (.int v), some (.int (nI s)), none, none] [] h1 (fun r h' => h'.1 0 = h.1 0 ∧ K r h') := by
    intro M eM hM h1 r1 f1 o1 x1 R1 c
    obtain ⟨S1, S2⟩ := hS r1 x1
    induction c with
    | zero =>
      intro s v hs hv
      have hs : s = (pT n).length := by omega
      rw [if_pos (by omega)] at hv
      subst hv
      refine bk_X12_changed_221 _ _ _ _ ⟨_, o1.f21, ?_⟩
      rw [S1]
      exact ⟨fun _ => ⟨f1.z, hK h1 r1 f1 o1 x1⟩, fun z => absurd (le_t (by omega) (by omega)) z⟩
    | succ c ih =>
      intro s v hs hv
      have hsl : s < (pT n).length := by omega
      refine bk_X12_changed_221 _ _ _ _ ⟨_, o1.f21, ?_⟩
      rw [S1]
      refine ⟨fun z => absurd z (le_f hsl (by omega)), fun _ => ?_⟩
      have cmp : ∀ c k (b : Int32), k + c = 10 → (b = @ite _ (∀ k', k' < k → lA n s k' = M.getD k' 0) (Classical.propDecidable _) 1 0) → Wm d (0, 0) JX12_changed 236 [some (.ref 34), none, none, none, none, none, some (.int (nI M.length)), none, none, some (.int v), some (.int (nI s)), some (.int b), some (.int (nI k))] [] h1 (fun r h' => h'.1 0 = h.1 0 ∧ K r h') := by
        intro c
        induction c with
        | zero =>
          intro k b hk hb
          have hk : k = 10 := by omega
          subst hk
          refine bk_X12_changed_236 _ _ _ _ _ _ ⟨fun _ => ⟨fun z => ?_, fun z => ?_⟩, fun z => absurd (le_t (a := 10) (b := 10) (by decide) (by decide)) z⟩
          · rw [nI_1]
            refine ih (s + 1) v (by omega) ?_
            have ne : ¬ s = ix := fun q => by
              rw [if_pos (fun k' _ => by rw [eM, q]; rfl)] at hb
              rw [hb] at z
              exact absurd z (by decide)
            rw [hv]
            by_cases w : ix < s
            · rw [if_pos w, if_pos (by omega)]
            · rw [if_neg w, if_neg (by omega)]
          · rw [nI_1]
            refine ih (s + 1) (nI s) (by omega) ?_
            have al : ∀ k', k' < 10 → lA n s k' = M.getD k' 0 := Classical.byContradiction fun q => by rw [if_neg q] at hb; exact z hb
            have : s = ix := tb_unq n hn s hsl ix hix (fun k hk => by rw [al k hk, eM]; rfl)
            rw [this, if_pos (by omega)]
        | succ c ihk =>
          intro k b hk hb
          have ihk := fun b => ihk (k + 1) b (by omega)
          have lb := tb_lb n hn s hsl k (by omega)
          have v53 : m_il h1 53 (nI (10 * s + k)) = some (nI (lA n s k)) := by rw [o1.il 53 430 (by decide) (by omega), S2 s hsl k (by omega)]
          refine bk_X12_changed_236 _ _ _ _ _ _ ⟨fun z => absurd z (le_f (a := 10) (b := k) (by omega) (by decide)), fun _ => ⟨fun z => ?_, fun z => ⟨_, o1.f22, ?_⟩⟩⟩
          · rw [nI_1]
            refine ihk 0 ?_
            rw [if_neg (fun q => by
              rw [if_pos (fun k' hk' => q k' (by omega))] at hb
              rw [hb] at z
              exact absurd z (by decide))]
          · have al : ∀ k', k' < k → lA n s k' = M.getD k' 0 := Classical.byContradiction fun q => by rw [if_neg q] at hb; exact z hb
            have nx : ∀ b, (b = @ite _ (lA n s k = M.getD k 0) (Classical.propDecidable _) 1 0) → b = @ite _ (∀ k', k' < k + 1 → lA n s k' = M.getD k' 0) (Classical.propDecidable _) (1 : Int32) 0 := fun b hb => by
              by_cases w : lA n s k = M.getD k 0
              · rw [if_pos w] at hb
                rw [if_pos (fun k' hk' => by
                  by_cases e : k' = k
                  · rw [e]; exact w
                  · exact al k' (by omega)), hb]
              · rw [if_neg w] at hb
                rw [if_neg (fun q => w (q k (by omega))), hb]
            rw [n10]
            refine ⟨_, v53, fun y => ?_, fun y => ⟨_, o1.f23, ?_⟩⟩
            · have y := (nI_leI (by omega) (by omega)).mp y
              have e0 : M.getD k 0 = 0 := by rw [List.getD_eq_getElem?_getD, List.getElem?_eq_none y]; rfl
              rw [nI_1]
              refine ⟨fun z2 => ihk 0 (nx 0 ?_), fun z2 => ihk 1 (nx 1 ?_)⟩
              · rw [if_neg (fun q => z2 (by rw [q, e0]; rfl))]
              · have z2 : lA n s k = 0 := nI_inj (b := 0) (by omega) (by decide) z2
                rw [if_pos (by rw [z2, e0])]
            · have y : k < M.length := by
                rcases Nat.lt_or_ge k M.length with q | q
                · exact q
                · exact absurd (le_t q (by omega)) y
              have mb : M.getD k 0 ≤ 10 := by rw [eM]; exact tb_lb n hn ix hix k (by omega)
              refine ⟨_, o1.il 54 10 (by decide) (by omega), ?_⟩
              rw [R1 k y, nI_1]
              refine ⟨fun z2 => ihk 0 (nx 0 ?_), fun z2 => ihk 1 (nx 1 ?_)⟩
              · rw [if_neg (fun q => z2 (by rw [q]))]
              · rw [if_pos (nI_inj (by omega) (by omega) z2)]
      exact cmp 10 0 1 (by omega) (by rw [if_pos (fun k' hk' => absurd hk' (by omega))])
  -- put in order
  have ord : ∀ c k (M : List Nat) h1 r1, k + c = M.length → M.length ≤ 10 → (∀ v, v ∈ M → v ≤ 20) → bpn c M = pA n ix → FR h h1 → RR h1 r1 → ex [54] r r1 → RL' (r1.2.1 54) M → Wm d (0, 0) JX12_changed 130 [some (.ref 34), none, none, none, none, none, some (.int (nI M.length)), none, none, some (.int (nI k)), none, none, none] [] h1 (fun r h' => h'.1 0 = h.1 0 ∧ K r h') := by
    intro c
    induction c with
    | zero =>
      intro k M h1 r1 hk hM hb eM f1 o1 x1 R1
      refine bk_X12_changed_130 _ _ _ ⟨fun _ => ?_, fun z => absurd (le_t (by omega) (by omega)) z⟩
      exact srch M eM hM h1 r1 f1 o1 x1 R1 (pT n).length 0 _ (by omega) (by rw [if_neg (by omega)])
    | succ c ih =>
      intro k M h1 r1 hk hM hb eM f1 o1 x1 R1
      refine bk_X12_changed_130 _ _ _ ⟨fun z => absurd z (le_f (by omega) (by omega)), fun _ => ?_⟩
      match M, hk, hM, hb, eM, R1 with
      | [], hk, _, _, _, _ => exact absurd hk (by show ¬ k + (c + 1) = 0; omega)
      | a :: R0, hk, hM, hb, eM, R1 =>
        have eM : bpn c (bp1 a R0) = pA n ix := eM
        have ln := bp1_len a R0
        have pass : ∀ (R P : List Nat) (cur : Nat) h2 r2, P ++ bp1 cur R = bp1 a R0 → (∀ v, v ∈ P ++ cur :: R → v ≤ 20) → FR h h2 → RR h2 r2 → ex [54] r r2 → RL' (r2.2.1 54) (P ++ cur :: R) → Wm d (0, 0) JX12_changed 140 [some (.ref 34), none, none, none, none, none, some (.int (nI (a :: R0).length)), none, none, some (.int (nI k)), some (.int (nI (P.length + 1))), none, none] [] h2 (fun r h' => h'.1 0 = h.1 0 ∧ K r h') := by
          intro R
          induction R with
          | nil =>
            intro P cur h2 r2 eP hb2 f2 o2 x2 R2
            have lP : P.length + 1 = (a :: R0).length := by
              have := congrArg List.length eP
              rw [ln, List.length_append] at this
              exact this
            refine bk_X12_changed_140 _ _ _ _ ⟨fun _ => ?_, fun z => absurd (le_t (by omega) (by rw [← lP] at hM; omega)) z⟩
            rw [nI_1]
            have eP' : P ++ [cur] = bp1 a R0 := eP
            rw [eP'] at R2 hb2
            have := ih (k + 1) (bp1 a R0) h2 r2 (by rw [ln]; have : (a :: R0).length = R0.length + 1 := rfl; omega) (by rw [ln]; exact hM) hb2 eM f2 o2 x2 R2
            rw [ln] at this
            exact this
          | cons b R ihR =>
            intro P cur h2 r2 eP hb2 f2 o2 x2 R2
            have lP : P.length + 1 + (R.length + 1) = (a :: R0).length := by
              have := congrArg List.length eP
              rw [ln, List.length_append, bp1_len] at this
              have e : (a :: R0).length = R0.length + 1 := rfl
              have e2 : (b :: R).length = R.length + 1 := rfl
              omega
            have l10 : (a :: R0).length ≤ 10 := hM
            have lM : (P ++ cur :: b :: R).length = (a :: R0).length := by
              rw [List.length_append]
              show P.length + (R.length + 1 + 1) = _
              omega
            have c20 : cur ≤ 20 := hb2 cur (by simp)
            have b20 : b ≤ 20 := hb2 b (by simp)
            have vc : m_il h2 54 (nI P.length) = some (nI cur) := by rw [o2.il 54 10 (by decide) (by omega), R2 _ (by omega), getD_mid]
            have vb : m_il h2 54 (nI (P.length + 1)) = some (nI b) := by rw [o2.il 54 10 (by decide) (by omega), R2 _ (by omega), getD_mid1]
            have e1 : bp1 cur (b :: R) = if cur < b then b :: bp1 cur R else cur :: bp1 b R := rfl
            rw [e1] at eP
            refine bk_X12_changed_140 _ _ _ _ ⟨fun z => absurd z (le_f (by omega) (by omega)), fun _ => ⟨_, o2.f23, ?_⟩⟩
            rw [show nI (P.length + 1) - 1 = nI P.length from nI_pred _]
            refine ⟨_, vc, _, o2.f23, _, vb, fun z => ?_, fun z => ?_⟩
            · have z := (nI_leI (by omega) (by omega)).mp z
              rw [if_neg (by omega)] at eP
              rw [nI_1]
              have := ihR (P ++ [cur]) b h2 r2 (by rw [List.append_assoc]; exact eP) (by rw [List.append_assoc]; exact hb2) f2 o2 x2 (by rw [List.append_assoc]; exact R2)
              rw [List.length_append] at this
              exact this
            · have z : cur < b := by
                rcases Nat.lt_or_ge cur b with q | q
                · exact q
                · exact absurd (le_t q (by omega)) z
              rw [if_pos z] at eP
              obtain ⟨h3, e3, f3, o3⟩ := o2.is (x := nI cur) (j := P.length + 1) 54 10 (by decide) (by omega)
              obtain ⟨h4, e4, f4, o4⟩ := o3.is (x := nI b) (j := P.length) 54 10 (by decide) (by omega)
              refine ⟨_, o2.f23, _, vb, _, o2.f23, _, o2.f23, _, vc, h3, e3, _, o3.f23, h4, e4, ?_⟩
              rw [nI_1]
              have hR : RL' ((wr (wr r2 54 (P.length + 1) (nI cur)) 54 P.length (nI b)).2.1 54) (P ++ b :: cur :: R) := by
                rw [wr_s, wr_s]
                exact R2.swap
              have := ihR (P ++ [b]) cur h4 _ (by rw [List.append_assoc]; exact eP) (by
                rw [List.append_assoc]
                intro v hv
                refine hb2 v ?_
                simp only [List.mem_append, List.mem_cons, List.nil_append, List.singleton_append] at hv ⊢
                rcases hv with q | q | q | q
                · exact Or.inl q
                · exact Or.inr (Or.inr (Or.inl q))
                · exact Or.inr (Or.inl q)
                · exact Or.inr (Or.inr (Or.inr q))) ((f2.tr f3).tr f4) o4 (x2.tr ((ex.wr (by simp)).tr (ex.wr (by simp)))) (by rw [List.append_assoc]; exact hR)
              rw [List.length_append] at this
              exact this
        exact pass R0 [] a h1 r1 rfl hb f1 o1 x1 R1
  -- what is left of the row
  have hcop : ∀ (M : List Nat), M = m1L (pA n t) out other one two → bpn M.length M = pA n ix := fun M e => by rw [e]; exact hm2
  have rst' : ∀ c k (P : List Nat) (h1' h2' : Bool) h1 r1, k + c = 10 → P ++ rmv out other ((pA n t).drop k) h1' h2' = rmv out other (pA n t) false (Nat.beq other 0) → FR h h1 → RR h1 r1 → ex [54] r r1 → RL' (r1.2.1 54) P → Wm d (0, 0) JX12_changed 20 [some (.ref 34), some (.int (nI t)), some (.int (nI out)), some (.int (nI other)), some (.int (nI one)), some (.int (nI two)), some (.int (nI P.length)), some (.int (bO h1')), some (.int (bO h2')), some (.int (nI k)), none, none, none] [] h1 (fun r h' => h'.1 0 = h.1 0 ∧ K r h') := by
    intro c
    induction c with
    | zero =>
      intro k P h1' h2' h1 r1 hk eP f1 o1 x1 R1
      have hk : k = 10 := by omega
      subst hk
      have hd : (pA n t).drop 10 = [] := List.drop_eq_nil_of_le (tb_enc n hn t ht).2.2
      rw [hd] at eP
      have eP : P = rmv out other (pA n t) false (Nat.beq other 0) := by rw [← eP]; simp [rmv]
      have eM : m1L (pA n t) out other one two = P ++ (one :: (if two = 0 then [] else [two])) := by unfold m1L; rw [← eP]
      obtain ⟨M, hMd⟩ : ∃ M, M = m1L (pA n t) out other one two := ⟨_, rfl⟩
      have hb := hcop M hMd
      rw [← hMd] at hm10 hm20 eM
      have lM : P.length + 1 ≤ M.length := by rw [eM, List.length_append]; simp
      obtain ⟨h2, e2, f2, o2⟩ := o1.is (x := nI one) (j := P.length) 54 10 (by decide) (by omega)
      have R2 : RL' ((wr r1 54 P.length (nI one)).2.1 54) (P ++ [one]) := by rw [wr_s]; exact R1.push
      refine bk_X12_changed_20 _ _ _ _ _ _ _ _ _ _ ⟨fun _ => ⟨_, o1.f23, h2, e2, fun z => ?_, fun z => ⟨_, o2.f23, ?_⟩⟩, fun z => absurd (le_t (a := 10) (b := 10) (by decide) (by decide)) z⟩
      · have z : two = 0 := by
          have := (nI_leI (b := 0) (by omega) (by decide)).mp z
          omega
        rw [if_pos z] at eM
        have eL : M.length = P.length + 1 := by rw [eM, List.length_append]; rfl
        rw [nI_1, ← eL]
        exact ord M.length 0 M h2 _ (by omega) hm10 hm20 hb (f1.tr f2) o2 (x1.tr (ex.wr (by simp))) (by rw [eM]; exact R2)
      · have z : ¬ two = 0 := fun q => z (by rw [q]; exact le_t (a := 0) (b := 0) (by decide) (by decide))
        rw [if_neg z] at eM
        have eM' : M = (P ++ [one]) ++ [two] := by rw [eM, List.append_assoc]; rfl
        have eL : M.length = P.length + 1 + 1 := by rw [eM', List.length_append, List.length_append]; rfl
        rw [nI_1]
        obtain ⟨h3, e3, f3, o3⟩ := o2.is (x := nI two) (j := P.length + 1) 54 10 (by decide) (by omega)
        refine ⟨h3, e3, ?_⟩
        rw [nI_1, ← eL]
        have R3 : RL' ((wr (wr r1 54 P.length (nI one)) 54 (P.length + 1) (nI two)).2.1 54) M := by
          rw [wr_s, eM']
          have := R2.push (x := two)
          rw [List.length_append] at this
          exact this
        exact ord M.length 0 M h3 _ (by omega) hm10 hm20 hb ((f1.tr f2).tr f3) o3 (x1.tr ((ex.wr (by simp)).tr (ex.wr (by simp)))) R3
    | succ c ih =>
      intro k P h1' h2' h1 r1 hk eP f1 o1 x1 R1
      have lb := tb_lb n hn t ht k (by omega)
      have lPm : P.length ≤ (m1L (pA n t) out other one two).length := by
        unfold m1L
        rw [← eP, List.length_append, List.length_append]
        omega
      obtain ⟨S1, S2⟩ := hS r1 x1
      refine bk_X12_changed_20 _ _ _ _ _ _ _ _ _ _ ⟨fun z => absurd z (le_f (a := 10) (b := k) (by omega) (by decide)), fun _ => ⟨_, o1.f22, ?_⟩⟩
      rw [n10]
      refine ⟨_, o1.il 53 430 (by decide) (by omega), ?_⟩
      rw [S2 t ht k (by omega), nI_1]
      refine ⟨fun z => ?_, fun z => ?_⟩
      · have z : lA n t k = 0 := by
          have := (nI_leI (b := 0) (by omega) (by decide)).mp z
          omega
        have hge : (pA n t).length ≤ k := by
          rcases Nat.lt_or_ge k (pA n t).length with q | q
          · have : lA n t k = (pA n t)[k] := by unfold lA; simp [q]
            have := (tb_pos n hn t ht _ (List.getElem_mem q)).1
            omega
          · exact q
        refine ih (k + 1) P h1' h2' h1 r1 (by omega) ?_ f1 o1 x1 R1
        rw [List.drop_eq_nil_of_le hge] at eP
        rw [List.drop_eq_nil_of_le (by omega)]
        exact eP
      · have hlt : k < (pA n t).length := by
          rcases Nat.lt_or_ge k (pA n t).length with q | q
          · exact q
          · exfalso
            have : lA n t k = 0 := by unfold lA; rw [List.getD_eq_getElem?_getD, List.getElem?_eq_none q]; rfl
            rw [this] at z
            exact z (le_t (a := 0) (b := 0) (by decide) (by decide))
        have ed : (pA n t).drop k = lA n t k :: (pA n t).drop (k + 1) := by
          rw [List.drop_eq_getElem_cons hlt]
          congr 1
          unfold lA
          simp [hlt]
        rw [ed] at eP
        have er : rmv out other (lA n t k :: (pA n t).drop (k + 1)) h1' h2' = if lA n t k = out ∧ ¬ h1' = true then rmv out other ((pA n t).drop (k + 1)) true h2' else if lA n t k = other ∧ ¬ h2' = true then rmv out other ((pA n t).drop (k + 1)) h1' true else lA n t k :: rmv out other ((pA n t).drop (k + 1)) h1' h2' := rfl
        rw [er] at eP
        -- it stays
        have put : ¬ (lA n t k = out ∧ ¬ h1' = true) → ¬ (lA n t k = other ∧ ¬ h2' = true) → ∃ r7 : Nat, m_fld h1 34 [11] 23 = some (.ref r7) ∧ ∃ h8 : mH, m_is h1 r7 (nI P.length) (nI (lA n t k)) = some h8 ∧ Wm d (0, 0) JX12_changed 20 [some (.ref 34), some (.int (nI t)), some (.int (nI out)), some (.int (nI other)), some (.int (nI one)), some (.int (nI two)), some (.int (nI P.length + 1)), some (.int (bO h1')), some (.int (bO h2')), some (.int (nI (k + 1))), none, none, none] [] h8 (fun r h' => h'.1 0 = h.1 0 ∧ K r h') := by
          intro n1 n2
          rw [if_neg n1, if_neg n2] at eP
          have lP : P.length < 10 := by
            have : P.length + 1 ≤ (m1L (pA n t) out other one two).length := by
              unfold m1L
              rw [← eP, List.length_append, List.length_append, List.length_cons]
              omega
            omega
          obtain ⟨h2, e2, f2, o2⟩ := o1.is (x := nI (lA n t k)) (j := P.length) 54 10 (by decide) lP
          refine ⟨_, o1.f23, h2, e2, ?_⟩
          have := ih (k + 1) (P ++ [lA n t k]) h1' h2' h2 _ (by omega) (by rw [List.append_assoc]; exact eP) (f1.tr f2) o2 (x1.tr (ex.wr (by simp))) (by rw [wr_s]; exact R1.push)
          rw [List.length_append] at this
          rw [nI_1]
          exact this
        have f0 : ∀ b : Bool, (bO b = 0 ↔ ¬ b = true) := by decide
        refine ⟨fun za => ⟨fun zb => put (fun q => za (by rw [q.1])) (fun q => zb (by rw [q.1])), fun zb => ⟨fun zc => put (fun q => za (by rw [q.1])) (fun q => zc ((f0 _).mpr q.2)), fun zc => ?_⟩⟩, fun za => ⟨fun zd => ⟨fun zb => put (fun q => zd ((f0 _).mpr q.2)) (fun q => zb (by rw [q.1])), fun zb => ⟨fun zc => put (fun q => zd ((f0 _).mpr q.2)) (fun q => zc ((f0 _).mpr q.2)), fun zc => ?_⟩⟩, fun zd => ?_⟩⟩
        · have zb := nI_inj (by omega) (by omega) zb
          rw [if_neg (fun q => za (by rw [q.1])), if_pos ⟨zb, (f0 _).mp zc⟩] at eP
          exact ih (k + 1) P h1' true h1 r1 (by omega) eP f1 o1 x1 R1
        · have zb := nI_inj (by omega) (by omega) zb
          rw [if_neg (fun q => zd ((f0 _).mpr q.2)), if_pos ⟨zb, (f0 _).mp zc⟩] at eP
          exact ih (k + 1) P h1' true h1 r1 (by omega) eP f1 o1 x1 R1
        · have za := nI_inj (by omega) (by omega) za
          rw [if_pos ⟨za, (f0 _).mp zd⟩] at eP
          exact ih (k + 1) P true h2' h1 r1 (by omega) eP f1 o1 x1 R1
  refine en_X12_changed (bk_X12_changed_0 _ _ _ _ _ _ ⟨fun z => ?_, fun z => ?_⟩)
  · have z : ¬ other = 0 := fun q => z (by rw [q]; rfl)
    have e : Nat.beq other 0 = false := by
      cases q : Nat.beq other 0
      · rfl
      · exact absurd (Nat.eq_of_beq_eq_true q) z
    exact rst' 10 0 [] false false h r (by omega) (by rw [e]; rfl) FR.rf o ex.rf (fun i hi => absurd hi (by show ¬ i < 0; omega))
  · have z : other = 0 := nI_inj (b := 0) (by omega) (by decide) z
    have e : Nat.beq other 0 = true := by rw [z]; rfl
    exact rst' 10 0 [] false true h r (by omega) (by rw [e]; rfl) FR.rf o ex.rf (fun i hi => absurd hi (by show ¬ i < 0; omega))
end RefChanged

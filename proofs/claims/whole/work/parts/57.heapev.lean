/-! the class's Heap -/
theorem PK_0 (n : Nat) : PK n (fun _ => 0) = 0 := by
  unfold PK
  rw [show rs n (fun _ => 0) = fun _ => 0 by funext i; unfold rs; split <;> rfl]
  rfl
theorem PK_n0 {n : Nat} {f : Nat → Nat} (hn : n ≤ 12) (h2 : 2 ≤ n) (hf : pm n f) : ¬ PK n f = 0 := by
  rw [← PK_0 n, PK_eq hn (fun i hi => by have := hf.1 i hi; omega) (fun _ _ => by decide)]
  intro h
  have := hf.2 0 1 (by omega) (by omega) ((h 0 (by omega)).trans (h 1 (by omega)).symm)
  omega
def bkv (n : Nat) : Option (Nat → Nat) → Int64
  | none => 0
  | some el => PK n (iv el n)
/-- the Heap's state -/
def HS (h : mH) (n : Nat) (B : hS) (L : Nat → Nat → Nat) (c : Nat) : Prop := h.1 28 = .inr (2, [.ref 29, .ref 30, .int (nI c)]) ∧ (∃ F : Nat → Int64, h.1 29 = .inl (1, 66, .inr (.inl F)) ∧ ∀ a, a < c → F a = PK n (L a)) ∧ ∃ G : Nat → Int64, h.1 30 = .inl (1, 144, .inr (.inl G)) ∧ ∀ i j, i < 12 → j < 12 → G (12 * i + j) = bkv n (B i j)
/-- each that is kept is in the row, once -/
def LB (B : hS) (L : Nat → Nat → Nat) (c : Nat) : Prop := (∃ pi pj : Nat → Nat, (∀ a, a < c → B (pi a) (pj a) = some (L a)) ∧ ∀ a b, a < c → b < c → pi a = pi b → pj a = pj b → a = b) ∧ ∀ i j el, B i j = some el → ∃ a, a < c ∧ L a = el
theorem tri {i j i' j' : Nat} (h : i < j) (h' : i' < j') (e : j * (j - 1) / 2 + i = j' * (j' - 1) / 2 + i') : i = i' ∧ j = j' := by
  have key : ∀ a b : Nat, a < b → a * (a - 1) / 2 + a ≤ b * (b - 1) / 2 := by
    intro a b hab
    have h1 : a * (a - 1) / 2 + a = (a + 1) * a / 2 := by
      have : (a + 1) * a = a * (a - 1) + a * 2 := by
        cases a with
        | zero => rfl
        | succ a => simp only [Nat.add_sub_cancel]; rw [Nat.add_mul, Nat.mul_comm (a + 1) a]; simp only [Nat.mul_add, Nat.add_mul]; omega
      rw [this, Nat.add_mul_div_right _ _ (by decide)]
    rw [h1]
    apply Nat.div_le_div_right
    exact Nat.mul_le_mul (by omega) (by omega)
  rcases Nat.lt_trichotomy j j' with w | w | w
  · have := key j j' w; omega
  · subst w; exact ⟨by omega, rfl⟩
  · have := key j' j w; omega
theorem tri_lt {i j : Nat} (h : i < j) (hj : j < 12) : j * (j - 1) / 2 + i < 66 := by
  have h1 : j * (j - 1) / 2 ≤ 11 * 10 / 2 ∧ (j = 11 ∨ j * (j - 1) / 2 ≤ 10 * 9 / 2) := by
    refine ⟨Nat.div_le_div_right (Nat.mul_le_mul (by omega) (by omega)), ?_⟩
    by_cases e : j = 11
    · exact Or.inl e
    · exact Or.inr (Nat.div_le_div_right (Nat.mul_le_mul (by omega) (by omega)))
  omega
section HeapEv
variable {d n k : Nat} {t : Nat → Nat → Nat} {h : mH} {K : Option Value → mH → Prop} {B : hS} {L : Nat → Nat → Nat} {c : Nat}
theorem LB_le (hn : n ≤ 12) (hB : ∀ i j el, B i j = some el → i < j ∧ j < n) (hL : LB B L c) : c ≤ 66 := by
  obtain ⟨⟨pi, pj, h1, h2⟩, -⟩ := hL
  refine inj_le (f := fun a => pj a * (pj a - 1) / 2 + pi a) (fun a ha => ?_) (fun a b ha hb e => ?_)
  · obtain ⟨a1, a2⟩ := hB _ _ _ (h1 a ha)
    exact tri_lt a1 (by omega)
  · obtain ⟨a1, -⟩ := hB _ _ _ (h1 a ha)
    obtain ⟨b1, -⟩ := hB _ _ _ (h1 b hb)
    obtain ⟨e1, e2⟩ := tri a1 b1 e
    exact h2 a b ha hb e1 e2
/-- one more -/
theorem LB_up {i j : Nat} {p : Nat → Nat} (hL : LB B L c) (hB : B i j = none) : LB (upB B i j p) (fun a => if a = c then p else L a) (c + 1) := by
  obtain ⟨⟨pi, pj, h1, h2⟩, h3⟩ := hL
  have ne : ∀ a, a < c → ¬ (pi a = i ∧ pj a = j) := fun a ha w => by
    have := h1 a ha
    rw [w.1, w.2, hB] at this
    exact absurd this (by simp)
  refine ⟨⟨fun a => if a = c then i else pi a, fun a => if a = c then j else pj a, fun a ha => ?_, fun a b ha hb e1 e2 => ?_⟩, fun x y el e => ?_⟩
  · by_cases w : a = c
    · simp [w, upB]
    · have := ne a (by omega)
      simp only [w, if_false, upB]
      rw [if_neg this]
      exact h1 a (by omega)
  · by_cases wa : a = c
    · by_cases wb : b = c
      · omega
      · simp only [wa, wb, if_true, if_false] at e1 e2
        exact absurd ⟨e1.symm, e2.symm⟩ (ne b (by omega))
    · by_cases wb : b = c
      · simp only [wa, wb, if_true, if_false] at e1 e2
        exact absurd ⟨e1, e2⟩ (ne a (by omega))
      · simp only [wa, wb, if_false] at e1 e2
        exact h2 a b (by omega) (by omega) e1 e2
  · unfold upB at e
    split at e
    · exact ⟨c, by omega, by simp; exact Option.some.inj e⟩
    · obtain ⟨a, ha, e2⟩ := h3 x y el e
      exact ⟨a, by omega, by simp [show a ≠ c by omega]; exact e2⟩
theorem HS.fk (o : HS h n B L c) : m_fld h 28 [2] 0 = some (.ref 29) := fld_at o.1 (by decide) rfl
theorem HS.fb (o : HS h n B L c) : m_fld h 28 [2] 1 = some (.ref 30) := fld_at o.1 (by decide) rfl
theorem HS.fm (o : HS h n B L c) : m_fld h 28 [2] 2 = some (.int (nI c)) := fld_at o.1 (by decide) rfl
theorem n12 (x y : Nat) : nI x * 12 + nI y = nI (12 * x + y) := by rw [show (12 : Int32) = nI 12 by decide, pk_mul, nI_add, Nat.mul_comm]
theorem HS.lenk (o : HS h n B L c) : m_len h 29 = some 66 := by obtain ⟨F, a, -⟩ := o.2.1; exact len_L a
theorem HS.lenb (o : HS h n B L c) : m_len h 30 = some 144 := by obtain ⟨F, a, -⟩ := o.2.2; exact len_L a
theorem HS.atk {a : Nat} (o : HS h n B L c) (hc : c ≤ 66) (ha : a < c) : m_ll h 29 (nI a) = some (PK n (L a)) := by
  obtain ⟨F, e, e2⟩ := o.2.1
  rw [ll_at e (by omega) (by decide), e2 a ha]
theorem HS.atb {i j : Nat} (o : HS h n B L c) (hi : i < 12) (hj : j < 12) : m_ll h 30 (nI (12 * i + j)) = some (bkv n (B i j)) := by
  obtain ⟨G, e, e2⟩ := o.2.2
  rw [ll_at e (by omega) (by decide), e2 i j hi hj]
set_option maxRecDepth 4000 in
theorem sift_ev {p : Nat → Nat} (hn : n ≤ 12) (hB : hI n k t B) (hL : LB B L c) (o : HS h n B L c) (hp : pm n p) (hK : ∀ h' L' c', Fr [28, 29, 30] h h' → HS h' n (sft n B n 0 p) L' c' → LB (sft n B n 0 p) L' c' → c ≤ c' → (∀ a, a < c → L' a = L a) → K none h') : Ev (d + 2) (0, 0) MX2_sift [.ref 28, .long (PK n p), .int (nI n)] h K := by
  refine en_X2_sift (bk_X2_sift_0 _ _ _ ?_)
  have hc := LB_le hn (fun i j el e => ⟨(hB i j el e).1, (hB i j el e).2.1⟩) hL
  have key : ∀ r x p', x + r = n → pm n p' → (∀ z, z < x → p' z = z) → sft n B r x p' = sft n B n 0 p → Wm (d + 2) (0, 0) JX2_sift 6 [some (.ref 28), none, none, some (.int (nI n)), some (.long (PK n p')), none, some (.int (nI x)), none, none] [] h (fun r h' => h'.1 0 = h.1 0 ∧ K r h') := by
    intro r
    induction r with
    | zero =>
      intro x p' hx hp' hz e
      refine bk_X2_sift_6 _ _ _ _ ⟨fun _ => ⟨rfl, hK h L c Fr.rf ?_ ?_ (Nat.le_refl _) (fun _ _ => rfl)⟩, fun c => absurd (le_t (by omega) (by omega)) c⟩
      · rw [← e]; exact o
      · rw [← e]; exact hL
    | succ r ih =>
      intro x p' hx hp' hz e
      have hxn : x < n := by omega
      have hpx := hp'.1 x hxn
      refine bk_X2_sift_6 _ _ _ _ ⟨fun c => absurd c (le_f (by omega) (by omega)), fun _ => ?_⟩
      refine at_ev hn hxn (fun i hi => by have := hp'.1 i hi; omega) ⟨_, rfl, fun c1 => ?_, fun c1 => ?_⟩
      · have c1 : ¬ p' x = x := fun w => c1 (by rw [w])
        obtain ⟨g1, g2⟩ := up_gt hxn hp' hz c1
        refine ⟨_, o.fb, _, o.lenb, ?_⟩
        rw [n12]
        refine ⟨fun c2 => absurd c2 (le_f (a := 144) (by omega) (by decide)), fun _ => ⟨_, o.fm, _, o.fk, _, o.lenk, ?_⟩⟩
        cases hbx : B x (p' x) with
        | none =>
          have unf := sft_n (n := n) (r := r) c1 hbx
          have hc2 : c + 1 ≤ 66 := by
            refine LB_le hn (fun i j el e => ?_) (LB_up (p := p') hL hbx)
            unfold upB at e
            split at e
            · rename_i w; rw [w.1, w.2]; exact ⟨g1, g2⟩
            · exact ⟨(hB i j el e).1, (hB i j el e).2.1⟩
          have e0 : m_ll h 30 (nI (12 * x + p' x)) = some 0 := by rw [o.atb (by omega) (by omega), hbx]; rfl
          refine ⟨fun _ => ⟨_, o.fb, _, e0, fun c3 => absurd (cmp_z.mpr rfl) c3, fun _ => ⟨_, o.fb, ?_⟩⟩, fun c3 => absurd (lt_t (b := 66) (by omega) (by decide)) c3⟩
          refine inverse_ev hn hp' ⟨_, rfl, ?_⟩
          obtain ⟨G, eG, eG2⟩ := o.2.2
          obtain ⟨F, eF, eF2⟩ := o.2.1
          refine ⟨_, ls_at eG (by omega) (by decide), ?_⟩
          generalize hh1 : (m_up h.1 30 (.inl (1, 144, .inr (.inl (vp_updL G (12 * x + p' x) (PK n (iv p' n)))))), h.2) = h1
          have f1 : Fr [28, 29, 30] h h1 := by rw [← hh1]; exact Fr.up (by decide)
          have a28 : h1.1 28 = .inr (2, [.ref 29, .ref 30, .int (nI c)]) := by rw [← hh1]; exact (up_n (by decide)).trans o.1
          have a29 : h1.1 29 = .inl (1, 66, .inr (.inl F)) := by rw [← hh1]; exact (up_n (by decide)).trans eF
          have a30 : h1.1 30 = .inl (1, 144, .inr (.inl (vp_updL G (12 * x + p' x) (PK n (iv p' n))))) := by rw [← hh1]; exact up_s
          refine ⟨_, fld_at a28 (by decide) rfl, _, fld_at a28 (by decide) rfl, _, ls_at a29 (by omega) (by decide), ?_⟩
          generalize hh2 : (m_up h1.1 29 (.inl (1, 66, .inr (.inl (vp_updL F c (PK n p'))))), h1.2) = h2
          have f2 : Fr [28, 29, 30] h1 h2 := by rw [← hh2]; exact Fr.up (by decide)
          have b28 : h2.1 28 = .inr (2, [.ref 29, .ref 30, .int (nI c)]) := by rw [← hh2]; exact (up_n (by decide)).trans a28
          have b29 : h2.1 29 = .inl (1, 66, .inr (.inl (vp_updL F c (PK n p')))) := by rw [← hh2]; exact up_s
          have b30 : h2.1 30 = .inl (1, 144, .inr (.inl (vp_updL G (12 * x + p' x) (PK n (iv p' n))))) := by rw [← hh2]; exact (up_n (by decide)).trans a30
          refine ⟨_, fld_at b28 (by decide) rfl, _, put_at b28 (by decide : 2 < 3), ?_⟩
          rw [nI_1]
          have f3 : Fr [28, 29, 30] h2 (m_up h2.1 28 (.inr (2, [.ref 29, .ref 30, .int (nI (c + 1))])), h2.2) := Fr.up (by decide)
          have F3 := f1.tr (f2.tr f3)
          refine ⟨F3.z (by decide), hK _ (fun a => if a = c then p' else L a) (c + 1) F3 ?_ ?_ (by omega) (fun a ha => by simp [show a ≠ c by omega])⟩
          · rw [← e, unf]
            refine ⟨up_s, ⟨_, (up_n (by decide)).trans b29, fun a ha => ?_⟩, _, (up_n (by decide)).trans b30, fun i j hi hj => ?_⟩
            · by_cases w : a = c
              · simp [vp_updL, w]
              · simp [vp_updL, w, eF2 a (by omega)]
            · by_cases w : i = x ∧ j = p' x
              · simp [vp_updL, upB, w, bkv]
              · have : 12 * i + j ≠ 12 * x + p' x := by omega
                simp [vp_updL, upB, w, this, eG2 i j hi hj]
          · rw [← e, unf]; exact LB_up hL hbx
        | some el =>
          have unf := sft_s (n := n) (r := r) c1 hbx
          obtain ⟨a1, a2, a3, a4, a5, a6⟩ := hB _ _ _ hbx
          have e0 : m_ll h 30 (nI (12 * x + p' x)) = some (PK n (iv el n)) := by rw [o.atb (by omega) (by omega), hbx]; rfl
          have ne := PK_n0 hn (by omega) (pm_inv a3)
          obtain ⟨q1, q2⟩ := nxt_ok hxn hp' hz a3 a4 a5
          have nx := ih (x + 1) _ (by omega) q1 q2 (unf.symm.trans e)
          have bh : Ev (d + 1) (0, 0) MX5_behind [.long (PK n p'), .long (PK n (iv el n)), .int (nI n)] h (fun r13 h14 => ∃ y15 : Int64, r13 = some (.long y15) ∧ Wm (d + 2) (0, 0) JX2_sift 6 [some (.ref 28), none, none, some (.int (nI n)), some (.long y15), none, some (.int (nI x + 1)), none, none] [] h14 (fun r h' => h'.1 0 = h.1 0 ∧ K r h')) :=
            behind_ev hn hp'.1 (fun i hi => by have := (pm_inv a3).1 i hi; omega) ⟨_, rfl, by rw [nI_1]; exact nx⟩
          exact ⟨fun _ => ⟨_, o.fb, _, e0, fun _ => ⟨_, o.fb, _, e0, bh⟩, fun c3 => absurd (cmp_z.mp c3) ne⟩, fun _ => ⟨_, o.fb, _, e0, fun _ => ⟨_, o.fb, _, e0, fun _ => ⟨_, o.fb, _, e0, bh⟩, fun c3 => absurd (cmp_z.mp c3) ne⟩, fun c3 => absurd (cmp_z.mp c3) ne⟩⟩
      · have c1 : p' x = x := nI_inj (by omega) (by omega) c1
        rw [nI_1]
        refine ih (x + 1) p' (by omega) hp' (fun z hz2 => ?_) ?_
        · by_cases w : z = x
          · rw [w]; exact c1
          · exact hz z (by omega)
        · rw [← e, sft_k c1]
  exact key n 0 p (by omega) hp (fun z hz => absurd hz (by omega)) rfl
theorem fillL_ev {a cap : Nat} {x : Int64} {f : Nat → Int64} (ha : a ≠ 0) (hc : h.1 a = .inl (1, cap, .inr (.inl f))) (hcap : cap < 2147483648) (hK : ∀ h' g, Fr [a] h h' → h'.1 a = .inl (1, cap, .inr (.inl g)) → (∀ i, i < cap → g i = x) → K none h') : Ev d (0, 0) MJ7_fill_d0a16 [.ref a, .long x] h K := by
  refine en_J7_fill_d0a16 (bk_J7_fill_d0a16_0 _ _ ⟨_, len_L hc, ?_⟩)
  have key : ∀ r j h' g, j + r = cap → Fr [a] h h' → h'.1 a = .inl (1, cap, .inr (.inl g)) → (∀ i, i < j → g i = x) → Wm d (0, 0) JJ7_fill_d0a16 6 [some (.ref a), some (.long x), none, some (.int (nI j)), some (.int (nI cap))] [] h' (fun r h' => h'.1 0 = h.1 0 ∧ K r h') := by
    intro r
    induction r with
    | zero =>
      intro j h' g hj hF hg hq
      exact bk_J7_fill_d0a16_6 _ _ _ _ ⟨fun _ => ⟨hF.z (by simpa using Ne.symm ha), hK h' g hF hg (fun i hi => hq i (by omega))⟩, fun c => absurd (le_t (by omega) (by omega)) c⟩
    | succ r ih =>
      intro j h' g hj hF hg hq
      refine bk_J7_fill_d0a16_6 _ _ _ _ ⟨fun c => absurd c (le_f (by omega) (by omega)), fun _ => ⟨_, ls_at hg (by omega) hcap, ?_⟩⟩
      rw [nI_1]
      refine ih (j + 1) _ _ (by omega) (hF.tr (Fr.up (List.mem_singleton.mpr rfl))) up_s (fun i hi => ?_)
      by_cases w : i = j
      · simp [vp_updL, w]
      · simp [vp_updL, w, hq i (by omega)]
  exact key cap 0 h f (by omega) Fr.rf hc (fun i hi => absurd hi (by omega))
theorem product_ev (hn : n ≤ 12) (hB : hI n k t B) (hc : hcl n k t B) (o : HS h n B L c) (hK : K (some (.int (nI (hpr n k t n)))) h) : Ev d (0, 0) MX2_product [.ref 28, .int (nI n)] h K := by
  refine en_X2_product (bk_X2_product_0 _ _ ?_)
  have outer : ∀ r x, x + r = n → Wm d (0, 0) JX2_product 4 [some (.ref 28), some (.int (nI n)), some (.int (nI (hpr n k t x))), some (.int (nI x)), none, none] [] h (fun r h' => h'.1 0 = h.1 0 ∧ K r h') := by
    intro r
    induction r with
    | zero =>
      intro x hx
      refine bk_X2_product_4 _ _ _ _ ⟨fun _ => ⟨rfl, ?_⟩, fun c => absurd (le_t (by omega) (by omega)) c⟩
      rw [show x = n by omega]
      exact hK
    | succ r ih =>
      intro x hx
      refine bk_X2_product_4 _ _ _ _ ⟨fun c => absurd c (le_f (by omega) (by omega)), fun _ => ?_⟩
      rw [nI_1]
      have inner : ∀ s y, y + s = n → x < y → Wm d (0, 0) JX2_product 17 [some (.ref 28), some (.int (nI n)), some (.int (nI (hpr n k t x))), some (.int (nI x)), some (.int (nI (cn (fun j => @decide (x < j ∧ thr n k t x j) (Classical.propDecidable _)) y + 1))), some (.int (nI y))] [] h (fun r h' => h'.1 0 = h.1 0 ∧ K r h') := by
        intro s
        induction s with
        | zero =>
          intro y hy hxy
          refine bk_X2_product_17 _ _ _ _ _ _ ⟨fun _ => ?_, fun c => absurd (le_t (by omega) (by omega)) c⟩
          rw [nI_1, pk_mul, show y = n by omega]
          exact ih (x + 1) (by omega)
        | succ s ihs =>
          intro y hy hxy
          have hyn : y < n := by omega
          have hiff := hcl_thr hB hc hxy hyn
          refine bk_X2_product_17 _ _ _ _ _ _ ⟨fun c => absurd c (le_f (by omega) (by omega)), fun _ => ⟨_, o.fb, _, by rw [n12]; exact o.atb (by omega) (by omega), fun c1 => ?_, fun c1 => ?_⟩⟩
          · have hno : ¬ (x < y ∧ thr n k t x y) := fun w => by
              obtain ⟨el, e⟩ := hiff.mpr w.2
              rw [cmp_z, e] at c1
              exact PK_n0 hn (by omega) (pm_inv (hB _ _ _ e).2.2.1) c1
            rw [nI_1]
            have nx := ihs (y + 1) (by omega) (by omega)
            rw [cn_succ, if_neg (by simpa using hno)] at nx
            exact nx
          · have hyes : x < y ∧ thr n k t x y := ⟨hxy, by
              refine hiff.mp ?_
              cases e : B x y with
              | none => rw [e] at c1; exact absurd (cmp_z.mpr rfl) c1
              | some el => exact ⟨el, rfl⟩⟩
            rw [nI_1, nI_1]
            have nx := ihs (y + 1) (by omega) (by omega)
            rw [cn_succ, if_pos (by simpa using hyes)] at nx
            exact nx
      have z := inner (n - (x + 1)) (x + 1) (by omega) (by omega)
      have e0 : cn (fun j => @decide (x < j ∧ thr n k t x j) (Classical.propDecidable _)) (x + 1) = 0 := by
        rw [cn_false (j := 0) (by omega) (fun i _ hi => by simp; omega)]
        rfl
      rw [e0] at z
      exact z
  exact outer n 0 (by omega)
/-- what is at the Heap -/
def HO (h : mH) : Prop := ∃ (x : Int32) (F G : Nat → Int64), h.1 28 = .inr (2, [.ref 29, .ref 30, .int x]) ∧ h.1 29 = .inl (1, 66, .inr (.inl F)) ∧ h.1 30 = .inl (1, 144, .inr (.inl G))
theorem HS.ho (o : HS h n B L c) : HO h := by
  obtain ⟨a, ⟨F, b, -⟩, G, e, -⟩ := o
  exact ⟨_, F, G, a, b, e⟩
set_option maxRecDepth 4000 in
theorem orders_ev {ga ta ci pr : Nat} (co : CO h ga ta ci n k t pr) (hg1 : 57 ≤ ga) (ht1 : 57 ≤ ta) (o : HO h) (hK : ∀ h', Fr [28, 29, 30] h h' → HO h' → K (some (.int (nI (hpr n k t n)))) h') : Ev (d + 3) (0, 0) MX2_orders [.ref 28, .ref ga] h K := by
  have hn := co.n12
  have hk := co.k8
  have hp := co.prm
  obtain ⟨x0, F0, G0, o28, o29, o30⟩ := o
  have f1 : Fr [28, 29, 30] h (m_up h.1 28 (.inr (2, [.ref 29, .ref 30, .int 0])), h.2) := Fr.up (by decide)
  obtain ⟨h2, hh2⟩ : ∃ h2 : mH, h2 = (m_up h.1 28 (.inr (2, [.ref 29, .ref 30, .int 0])), h.2) := ⟨_, rfl⟩
  rw [← hh2] at f1
  have a28 : h2.1 28 = .inr (2, [.ref 29, .ref 30, .int 0]) := by rw [hh2]; exact up_s
  have a29 : h2.1 29 = .inl (1, 66, .inr (.inl F0)) := by rw [hh2]; exact (up_n (by decide)).trans o29
  have a30 : h2.1 30 = .inl (1, 144, .inr (.inl G0)) := by rw [hh2]; exact (up_n (by decide)).trans o30
  refine en_X2_orders (bk_X2_orders_0 _ _ ⟨_, co.fn, h2, by rw [hh2]; exact put_at o28 (by decide : 2 < 3), _, fld_at a28 (by decide) rfl, ?_⟩)
  refine fillL_ev (by decide) a30 (by decide) (fun h5 g5 f5 e5 z5 => ⟨rfl, ?_⟩)
  have F5 : Fr [28, 29, 30] h h5 := f1.tr (f5.wk (by simp))
  have IN : ∀ {h' : mH}, Fr [28, 29, 30] h h' → CO h' ga ta ci n k t pr ∧ h'.1 0 = h.1 0 := fun f => ⟨co.fr f (nm_ge (by decide) hg1) (nm_ge (by decide) ht1), f.z (by decide)⟩
  have hs0 : HS h5 n (fun _ _ => none) (fun _ _ => 0) 0 := ⟨f5.at a28 (by decide), ⟨F0, f5.at a29 (by decide), fun a ha => absurd ha (by omega)⟩, g5, e5, fun i j hi hj => z5 _ (by omega)⟩
  -- all that is kept
  have fin : ∀ {h' : mH} {B L c}, Fr [28, 29, 30] h h' → HS h' n B L c → hI n k t B → hcl n k t B → Ev (d + 2) (0, 0) MX2_product [.ref 28, .int (nI n)] h' (fun r2 h3 => ∃ x4 : Int32, r2 = some (.int x4) ∧ (h3.1 0 = h.1 0 ∧ K (some (.int x4)) h3)) :=
    fun f o hB hc => product_ev hn hB hc o ⟨_, rfl, (IN f).2, hK _ f o.ho⟩
  -- products of each with each up to itself
  have loop3 : ∀ r a h' B L c, a + r = 66 → Fr [28, 29, 30] h h' → HS h' n B L c → LB B L c → hI n k t B → (∀ j, j < k → mm n B n 0 (t j)) → (∀ a' b', a' < a → b' < a → a' < c → b' < c → mm n B n 0 (fun z => L a' (L b' z))) →
      Wm (d + 3) (0, 0) JX2_orders 48 [some (.ref 28), none, some (.int (nI n)), some (.int (nI a)), none] [] h' (fun r h' => h'.1 0 = h.1 0 ∧ K r h') := by
    intro r
    have close : ∀ {B : hS} {L : Nat → Nat → Nat} {c a : Nat}, LB B L c → c ≤ a → (∀ j, j < k → mm n B n 0 (t j)) → (∀ a' b', a' < a → b' < a → a' < c → b' < c → mm n B n 0 (fun z => L a' (L b' z))) → hcl n k t B := by
      intro B L c a hL hca hg hq
      refine ⟨hg, fun i j i' j' p p' e e' => ?_⟩
      obtain ⟨a1, h1, r1⟩ := hL.2 i j p e
      obtain ⟨a2, h2, r2⟩ := hL.2 i' j' p' e'
      rw [← r1, ← r2]
      exact hq a1 a2 (by omega) (by omega) h1 h2
    induction r with
    | zero =>
      intro a h' B L c ha f o hL hB hg hq
      have hc := LB_le hn (fun i j el e => ⟨(hB i j el e).1, (hB i j el e).2.1⟩) hL
      exact bk_X2_orders_48 _ _ _ ⟨_, o.fm, fun _ => ⟨_, o.1, fin f o hB (close hL (by omega) hg hq)⟩, fun c2 => absurd (le_t (by omega) (by omega)) c2⟩
    | succ r ih =>
      intro a h' B L c ha f o hL hB hg hq
      have hc := LB_le hn (fun i j el e => ⟨(hB i j el e).1, (hB i j el e).2.1⟩) hL
      rcases Nat.lt_or_ge a c with w | w
      · have c6 : ¬ (66 : Int32) ≤ nI a := by
          rw [show (66 : Int32) = nI 66 by decide]
          exact le_f (by omega) (by decide)
        refine bk_X2_orders_48 _ _ _ ⟨_, o.fm, fun c2 => absurd c2 (le_f w (by omega)), fun _ => ⟨fun c2 => absurd c2 c6, fun _ => ?_⟩⟩
        have inner : ∀ s b h' B L c, b + s = a + 1 → a < c → Fr [28, 29, 30] h h' → HS h' n B L c → LB B L c → hI n k t B → (∀ j, j < k → mm n B n 0 (t j)) → (∀ a' b', a' < a → b' < a → a' < c → b' < c → mm n B n 0 (fun z => L a' (L b' z))) → (∀ b', b' < b → mm n B n 0 (fun z => L a (L b' z)) ∧ mm n B n 0 (fun z => L b' (L a z))) →
            Wm (d + 3) (0, 0) JX2_orders 65 [some (.ref 28), none, some (.int (nI n)), some (.int (nI a)), some (.int (nI b))] [] h' (fun r h' => h'.1 0 = h.1 0 ∧ K r h') := by
          intro s
          induction s with
          | zero =>
            intro b h' B L c hb hac f o hL hB hg hq hr
            refine bk_X2_orders_65 _ _ _ _ ⟨fun _ => ?_, fun c2 => absurd (lt_t (by omega) (by omega)) c2⟩
            rw [nI_1]
            refine ih (a + 1) h' B L c (by omega) f o hL hB hg (fun a' b' h1 h2 h3 h4 => ?_)
            by_cases e1 : a' = a
            · subst e1; exact (hr b' (by omega)).1
            · by_cases e2 : b' = a
              · subst e2; exact (hr a' (by omega)).2
              · exact hq a' b' (by omega) (by omega) h3 h4
          | succ s ihs =>
            intro b h' B L c hb hac f o hL hB hg hq hr
            have hc := LB_le hn (fun i j el e => ⟨(hB i j el e).1, (hB i j el e).2.1⟩) hL
            obtain ⟨⟨pi, pj, w1, w2⟩, -⟩ := id hL
            obtain ⟨-, -, pa, -, -, ga⟩ := hB _ _ _ (w1 a hac)
            obtain ⟨-, -, pb, -, -, gb⟩ := hB _ _ _ (w1 b (by omega))
            refine bk_X2_orders_65 _ _ _ _ ⟨fun c2 => absurd c2 (lt_f (by omega) (by omega)), fun _ => ⟨_, o.fk, _, o.atk hc hac, _, o.fk, _, o.atk hc (by omega), ?_⟩⟩
            refine behind_ev hn pa.1 (fun i hi => by have := pb.1 i hi; omega) ⟨_, rfl, _, o.1, ?_⟩
            have p1 : pm n (fun i => L b (L a i)) := pm_comp pa pb
            have q1 : grp n k t (fun i => L b (L a i)) := grp_m pa.1 gb ga
            refine sift_ev hn hB hL o p1 (fun h9 L9 c9 f9 o9 L9b le9 eq9 => ⟨rfl, ?_⟩)
            have m1 := sft_mm hB n 0 (fun i => L b (L a i)) (by omega) p1 (fun z hz => absurd hz (by omega))
            have l1 : hle B (sft n B n 0 (fun i => L b (L a i))) := sft_le n 0 _
            have i1 := sft_I hB n 0 (fun i => L b (L a i)) (by omega) p1 (fun z hz => absurd hz (by omega)) q1
            generalize sft n B n 0 (fun i => L b (L a i)) = B9 at *
            have hc9 := LB_le hn (fun i j el e => ⟨(i1 i j el e).1, (i1 i j el e).2.1⟩) L9b
            have pa9 : pm n (L9 a) := by rw [eq9 a hac]; exact pa
            have pb9 : pm n (L9 b) := by rw [eq9 b (by omega)]; exact pb
            refine ⟨_, o9.fk, _, o9.atk hc9 (by omega), _, o9.fk, _, o9.atk hc9 (by omega), ?_⟩
            refine behind_ev hn pb9.1 (fun i hi => by have := pa9.1 i hi; omega) ⟨_, rfl, _, o9.1, ?_⟩
            have p2 : pm n (fun i => L9 a (L9 b i)) := pm_comp pb9 pa9
            have q2 : grp n k t (fun i => L9 a (L9 b i)) := by rw [eq9 a hac, eq9 b (by omega)]; exact grp_m pb.1 ga gb
            refine sift_ev hn i1 L9b o9 p2 (fun h8 L8 c8 f8 o8 L8b le8 eq8 => ⟨rfl, ?_⟩)
            have m2 := sft_mm i1 n 0 (fun i => L9 a (L9 b i)) (by omega) p2 (fun z hz => absurd hz (by omega))
            have l2 : hle B9 (sft n B9 n 0 (fun i => L9 a (L9 b i))) := sft_le n 0 _
            have i2 := sft_I i1 n 0 (fun i => L9 a (L9 b i)) (by omega) p2 (fun z hz => absurd hz (by omega)) q2
            generalize sft n B9 n 0 (fun i => L9 a (L9 b i)) = B8 at *
            have l3 : hle B B8 := fun i j el e => l2 _ _ _ (l1 _ _ _ e)
            have eq : ∀ x, x < c → L8 x = L x := fun x hx => (eq8 x (by omega)).trans (eq9 x hx)
            rw [nI_1]
            refine ihs (b + 1) h8 B8 L8 c8 (by omega) (by omega) (f.tr (f9.tr f8)) o8 L8b i2 (fun j hj => mm_mono l3 _ _ _ (hg j hj)) (fun a' b' h1 h2 h3 h4 => ?_) (fun b' hb' => ?_)
            · rw [eq a' (by omega), eq b' (by omega)]
              exact mm_mono l3 _ _ _ (hq a' b' h1 h2 (by omega) (by omega))
            · rw [eq a hac, eq b' (by omega)]
              by_cases e : b' = b
              · subst e
                rw [eq9 a hac, eq9 b' (by omega)] at m2
                exact ⟨m2, mm_mono l2 _ _ _ m1⟩
              · exact ⟨mm_mono l3 _ _ _ (hr b' (by omega)).1, mm_mono l3 _ _ _ (hr b' (by omega)).2⟩
        exact inner (a + 1) 0 h' B L c (by omega) w f o hL hB hg hq (fun b' hb' => absurd hb' (by omega))
      · exact bk_X2_orders_48 _ _ _ ⟨_, o.fm, fun _ => ⟨_, o.1, fin f o hB (close hL w hg hq)⟩, fun c2 => absurd (le_t w (by omega)) c2⟩
  -- the turns
  have loop1 : ∀ r j h' B L c, j + r = k → Fr [28, 29, 30] h h' → HS h' n B L c → LB B L c → hI n k t B → (∀ j', j' < j → mm n B n 0 (t j')) →
      Wm (d + 3) (0, 0) JX2_orders 20 [some (.ref 28), some (.ref ga), some (.int (nI n)), some (.int (nI j)), none] [] h' (fun r h' => h'.1 0 = h.1 0 ∧ K r h') := by
    intro r
    induction r with
    | zero =>
      intro j h' B L c hj f o hL hB hg
      obtain ⟨cc, -⟩ := IN f
      refine bk_X2_orders_20 _ _ _ _ ⟨_, cc.ft, _, cc.2.1.len, fun _ => ?_, fun c2 => absurd (le_t (by omega) (by omega)) c2⟩
      exact loop3 66 0 h' B L c (by omega) f o hL hB (fun j' hj' => hg j' (by omega)) (fun a' b' h1 => absurd h1 (by omega))
    | succ r ih =>
      intro j h' B L c hj f o hL hB hg
      obtain ⟨cc, -⟩ := IN f
      refine bk_X2_orders_20 _ _ _ _ ⟨_, cc.ft, _, cc.2.1.len, fun c2 => absurd c2 (le_f (by omega) (by omega)), fun _ => ⟨_, cc.ft, _, cc.2.1.at (by omega) (by omega), _, o.1, ?_⟩⟩
      refine sift_ev hn hB hL o (hp j (by omega)) (fun h6 L6 c6 f6 o6 L6b le6 eq6 => ⟨rfl, ?_⟩)
      have m1 := sft_mm hB n 0 (t j) (by omega) (hp j (by omega)) (fun z hz => absurd hz (by omega))
      have l1 : hle B (sft n B n 0 (t j)) := sft_le n 0 _
      have i1 := sft_I hB n 0 (t j) (by omega) (hp j (by omega)) (fun z hz => absurd hz (by omega)) (grp_g (by omega))
      rw [nI_1]
      refine ih (j + 1) h6 _ L6 c6 (by omega) (f.tr f6) o6 L6b i1 (fun j' hj' => ?_)
      by_cases e : j' = j
      · subst e; exact m1
      · exact mm_mono l1 _ _ _ (hg j' (by omega))
  exact loop1 k 0 h5 _ _ 0 (by omega) F5 hs0 ⟨⟨fun _ => 0, fun _ => 0, fun a ha => absurd ha (by omega), fun a b ha => absurd ha (by omega)⟩, fun i j el e => absurd e (by simp)⟩ (fun i j el e => absurd e (by simp)) (fun j' hj' => absurd hj' (by omega))
end HeapEv

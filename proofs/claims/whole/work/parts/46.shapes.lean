/-! shapes in one long: how often each length is there; lengths of the rounds of an order -/
def SH (c : Nat → Nat) : Int64 := lN (pk fun i => c (12 - i))
theorem pq_sum (f g : Nat → Nat) : pk f + pk g = pk (fun i => f i + g i) := by simp only [pk]; omega
theorem SH_add (c e : Nat → Nat) : SH c + SH e = SH (fun l => c l + e l) := by unfold SH; rw [lN_add, pq_sum]
def o1 (l : Nat) : Nat → Nat := fun m => if m = l then 1 else 0
theorem pq_one : ∀ l, l < 12 → pk (fun i => o1 (l + 1) (12 - i)) = 2 ^ (4 * l) := by decide
theorem SH_congr {c e : Nat → Nat} (h : ∀ l, 1 ≤ l → l ≤ 12 → c l = e l) : SH c = SH e := by
  have key : (fun i => rs 12 (fun i => c (12 - i)) i) = (fun i => rs 12 (fun i => e (12 - i)) i) := by
    funext i
    by_cases hi : i < 12
    · rw [rs_in _ hi, rs_in _ hi, h (12 - i) (by omega) (by omega)]
    · rw [rs_out _ (by omega), rs_out _ (by omega)]
  have k2 : ∀ f : Nat → Nat, pk f = pk (fun i => rs 12 f i) := fun f => by simp [pk, rs]
  unfold SH
  rw [k2 (fun i => c (12 - i)), k2 (fun i => e (12 - i)), key]
theorem SH_eq {c e : Nat → Nat} (hc : ∀ l, c l < 16) (he : ∀ l, e l < 16) : SH c = SH e ↔ ∀ l, 1 ≤ l → l ≤ 12 → c l = e l := by
  constructor
  · intro h l h1 h2
    have q := pq_inj (fun i => hc _) (fun i => he _) (lN_inj (pq_lt (fun i => hc _)) (pq_lt (fun i => he _)) h) (12 - l) (by omega)
    have e1 : 12 - (12 - l) = l := by omega
    rwa [e1] at q
  · exact SH_congr
section ShapesEv
variable {d n : Nat} {h : mH} {K : Option Value → mH → Prop}
theorem sh4 {l : Nat} (h1 : 1 ≤ l) : (4 : Int32) * (nI l - 1) = nI (4 * (l - 1)) := by rw [nI_m1 (by omega), show (4 : Int32) = nI 4 from rfl, pk_mul]
theorem times_ev {l : Nat} {c : Nat → Nat} (h1 : 1 ≤ l) (h2 : l ≤ 12) (hc : ∀ l, c l < 16) (hK : K (some (.int (nI (c l)))) h) : Ev d (0, 0) MX8_times [.long (SH c), .int (nI l)] h K := by
  refine en_X8_times (bk_X8_times_0 _ _ ⟨rfl, ?_⟩)
  have e := at_val (f := fun i => c (12 - i)) (fun i => hc _) (i := 12 - l) (by omega)
  have e1 : (44 : Int32) - 4 * nI (12 - l) = nI (4 * (l - 1)) := by
    rw [show (4 : Int32) = nI 4 from rfl, pk_mul, show (44 : Int32) = nI 44 from rfl, pk_sub (by omega)]
    congr 1; omega
  rw [e1, show 12 - (12 - l) = l by omega] at e
  rw [sh4 h1, show SH c = lN (pk fun i => c (12 - i)) from rfl, e]
  exact hK
theorem one_ev {l : Nat} (h1 : 1 ≤ l) (h2 : l ≤ 12) (hK : K (some (.long (SH (o1 l)))) h) : Ev d (0, 0) MX8_one [.int (nI l)] h K := by
  refine en_X8_one (bk_X8_one_0 _ ⟨rfl, ?_⟩)
  have e : (1 : Int64) <<< ((4 * (nI l - 1)).toInt64 &&& 63) = SH (o1 l) := by
    rw [sh4 h1, show (1 : Int64) = lN 1 from rfl, wb_shl _ (by omega)]
    have := pq_one (l - 1) (by omega)
    rw [show l - 1 + 1 = l by omega] at this
    unfold SH
    rw [this, Nat.one_mul]
  rw [e]
  exact hK
/-- lengths from 1 to k, added -/
def sm (c : Nat → Nat) : Nat → Nat
  | 0 => 0
  | k + 1 => sm c k + c (k + 1)
theorem sm_le {c : Nat → Nat} (hc : ∀ l, c l < 16) : ∀ k, sm c k ≤ 16 * k
  | 0 => by simp [sm]
  | k + 1 => by have := sm_le hc k; have := hc (k + 1); unfold sm; omega
theorem total_ev {c : Nat → Nat} (hc : ∀ l, c l < 16) (hK : K (some (.int (nI (sm c 12)))) h) : Ev (d + 1) (0, 0) MX8_total [.long (SH c)] h K := by
  refine en_X8_total (bk_X8_total_0 _ ?_)
  refine dn (n := 12) (fun k => Wm (d + 1) (0, 0) JX8_total 4 [some (.long (SH c)), none, some (.int (nI (sm c k))), some (.int (nI (k + 1)))] [] h (fun r h' => h'.1 0 = h.1 0 ∧ K r h')) ?_ ?_ 0 (Nat.zero_le _)
  · exact bk_X8_total_4 _ _ _ ⟨fun _ => ⟨rfl, hK⟩, fun c => absurd (lt_t (a := 12) (b := 13) (by decide) (by decide)) c⟩
  · intro k hk ih
    refine bk_X8_total_4 _ _ _ ⟨fun c => absurd c (lt_f (a := 12) (by omega) (by omega)), fun _ => ?_⟩
    refine times_ev (by omega) (by omega) hc ⟨_, rfl, ?_⟩
    rw [nI_add, nI_1]
    exact ih
/-- the m greatest lengths, added -/
def ga (c : Nat → Nat) : Nat → Nat
  | 0 => 0
  | m + 1 => ga c m + c (12 - m)
theorem ga_le {c : Nat → Nat} (hc : ∀ l, c l < 16) : ∀ k, ga c k ≤ 16 * k
  | 0 => by simp [ga]
  | k + 1 => by have := ga_le hc k; have := hc (12 - k); unfold ga; omega
/-- length number j, the longest first, among those up to r -/
def laR (c : Nat → Nat) (j : Nat) : Nat → Int32
  | 0 => -1000000
  | r + 1 => if j < ga c (12 - r) then nI (r + 1) else laR c j r
theorem lengthAt_neg {c : Nat → Nat} {i : Int32} (hi : ¬ 0 ≤ i) (hK : K (some (.int (-1000000))) h) : Ev (d + 1) (0, 0) MX8_lengthAt [.long (SH c), .int i] h K :=
  en_X8_lengthAt (bk_X8_lengthAt_0 _ _ ⟨fun c => absurd c hi, fun _ => ⟨rfl, hK⟩⟩)
theorem lengthAt_ev {c : Nat → Nat} {j : Nat} (hc : ∀ l, c l < 16) (hj : j < 2147483648) (hK : K (some (.int (laR c j 12))) h) : Ev (d + 1) (0, 0) MX8_lengthAt [.long (SH c), .int (nI j)] h K := by
  refine en_X8_lengthAt (bk_X8_lengthAt_0 _ _ ⟨fun _ => ?_, fun q => absurd (nI_pos' hj) q⟩)
  have key : ∀ r, r ≤ 12 → (K (some (.int (laR c j r))) h) → Wm (d + 1) (0, 0) JX8_lengthAt 13 [some (.long (SH c)), none, some (.int (nI j)), some (.int (nI (ga c (12 - r)))), some (.int (nI r))] [] h (fun r h' => h'.1 0 = h.1 0 ∧ K r h') := by
    intro r
    induction r with
    | zero =>
      intro _ hq
      exact bk_X8_lengthAt_13 _ _ _ _ ⟨fun _ => ⟨rfl, hq⟩, fun q => absurd (lt_t (a := 0) (b := 1) (by decide) (by decide)) q⟩
    | succ r ih =>
      intro hr hq
      refine bk_X8_lengthAt_13 _ _ _ _ ⟨fun q => absurd q (lt_f (b := 1) (by omega) (by omega)), fun _ => ?_⟩
      refine times_ev (by omega) hr hc ⟨_, rfl, ?_⟩
      have e : ga c (12 - (r + 1)) + c (r + 1) = ga c (12 - r) := by
        have e2 : 12 - r = (12 - (r + 1)) + 1 := by omega
        rw [e2]
        show _ = ga c (12 - (r + 1)) + c (12 - (12 - (r + 1)))
        rw [show 12 - (12 - (r + 1)) = r + 1 by omega]
      have hg := ga_le hc (12 - r)
      rw [nI_add, e]
      unfold laR at hq
      refine ⟨fun q => ?_, fun q => ⟨rfl, ?_⟩⟩
      · rw [nI_leI (by omega) hj] at q
        rw [if_neg (by omega)] at hq
        have e3 : nI (r + 1) + (-1) = nI r := pk_m1 r
        rw [e3]
        exact ih (by omega) hq
      · rw [nI_leI (by omega) hj] at q
        rw [if_pos (by omega)] at hq
        exact hq
  exact key 12 (Nat.le_refl _) hK
-- rounds, as both walk them
def vs (v : Nat → Bool) (y : Nat) : Nat → Bool := fun z => if z = y then true else v z
def wk (p : Nat → Nat) : Nat → (Nat → Bool) → Nat → Nat × (Nat → Bool)
  | 0, v, _ => (0, v)
  | s + 1, v, y => if v y = true then (0, v) else ((wk p s (vs v y) (p y)).1 + 1, (wk p s (vs v y) (p y)).2)
def cyv (p : Nat → Nat) (n : Nat) : Nat → (Nat → Bool)
  | 0 => fun _ => false
  | x + 1 => (wk p n (cyv p n x) x).2
def cyl (p : Nat → Nat) (n : Nat) : Nat → List Nat
  | 0 => []
  | x + 1 => if (wk p n (cyv p n x) x).1 = 0 then cyl p n x else cyl p n x ++ [(wk p n (cyv p n x) x).1]
theorem wk_t (p : Nat → Nat) (s : Nat) {v : Nat → Bool} {y : Nat} (h : v y = true) : wk p (s + 1) v y = (0, v) := by
  show (if v y = true then _ else _) = _
  rw [if_pos h]
theorem wk_f (p : Nat → Nat) (s : Nat) {v : Nat → Bool} {y : Nat} (h : ¬ v y = true) : wk p (s + 1) v y = ((wk p s (vs v y) (p y)).1 + 1, (wk p s (vs v y) (p y)).2) := by
  show (if v y = true then _ else _) = _
  rw [if_neg h]
theorem wk_le (p : Nat → Nat) : ∀ (s : Nat) (v : Nat → Bool) (y : Nat), (wk p s v y).1 ≤ s
  | 0, _, _ => Nat.le_refl _
  | s + 1, v, y => by
    unfold wk
    split
    · exact Nat.zero_le _
    · exact Nat.succ_le_succ (wk_le p s _ _)
theorem cyl_len (p : Nat → Nat) (n : Nat) : ∀ x, (cyl p n x).length ≤ x
  | 0 => Nat.le_refl _
  | x + 1 => by
    have := cyl_len p n x
    unfold cyl
    split
    · omega
    · simp; exact this
/-- how often a length is there -/
def ct (L : List Nat) : Nat → Nat := fun l => L.count l
theorem ct_lt {L : List Nat} (h : L.length ≤ 12) : ∀ l, ct L l < 16 := fun l => by
  have : L.count l ≤ L.length := List.count_le_length
  unfold ct; omega
theorem lengthsOf_ev {p : Nat → Nat} (hn : n ≤ 12) (hp : ∀ i, i < n → p i < n) (hK : K (some (.long (SH (ct (cyl p n n))))) h) : Ev (d + 1) (0, 0) MX8_lengthsOf [.long (PK n p), .int (nI n)] h K := by
  refine en_X8_lengthsOf (bk_X8_lengthsOf_0 _ _ ?_)
  have outer : ∀ r x m, x + r = n → m < 4096 → (∀ z, m.testBit z = cyv p n x z) → Wm (d + 1) (0, 0) JX8_lengthsOf 8 [some (.long (PK n p)), none, some (.int (nI n)), some (.long (SH (ct (cyl p n x)))), none, some (.int (nI m)), some (.int (nI x)), none, none, none] [] h (fun r h' => h'.1 0 = h.1 0 ∧ K r h') := by
    intro r
    induction r with
    | zero =>
      intro x m hx hm hv
      have hx : x = n := by omega
      subst hx
      exact bk_X8_lengthsOf_8 _ _ _ _ _ ⟨fun _ => ⟨rfl, hK⟩, fun c => absurd (le_t (Nat.le_refl _) (by omega)) c⟩
    | succ r ih =>
      intro x m hx hm hv
      refine bk_X8_lengthsOf_8 _ _ _ _ _ ⟨fun c => absurd c (le_f (by omega) (by omega)), fun _ => ?_⟩
      have hcl := cyl_len p n x
      -- behind the walk
      have after : ∀ (len m' : Nat), len = (wk p n (cyv p n x) x).1 → m' < 4096 → (∀ z, m'.testBit z = (wk p n (cyv p n x) x).2 z) →
          ((nI len ≤ 0 → Wm (d + 1) (0, 0) JX8_lengthsOf 8 [some (.long (PK n p)), none, some (.int (nI n)), some (.long (SH (ct (cyl p n x)))), none, some (.int (nI m')), some (.int (nI x + 1)), none, none, none] [] h (fun r h' => h'.1 0 = h.1 0 ∧ K r h')) ∧ (¬ (nI len ≤ 0) → Ev d (0, 0) MX8_one [.int (nI len)] h (fun r1 h2 => ∃ y3 : Int64, r1 = some (.long y3) ∧ Wm (d + 1) (0, 0) JX8_lengthsOf 8 [some (.long (PK n p)), none, some (.int (nI n)), some (.long (SH (ct (cyl p n x)) + y3)), none, some (.int (nI m')), some (.int (nI x + 1)), none, none, none] [] h2 (fun r h' => h'.1 0 = h.1 0 ∧ K r h')))) := by
        intro len m' hlen hm' hv'
        have hle : len ≤ n := by rw [hlen]; exact wk_le p n _ _
        have nx := ih (x + 1) m' (by omega) hm' hv'
        unfold cyl at nx
        rw [nI_1]
        refine ⟨fun c => ?_, fun c => ?_⟩
        · have hz : len = 0 := by
            have := (nI_leI (a := len) (b := 0) (by omega) (by decide)).mp c
            omega
          rw [if_pos (by omega)] at nx
          exact nx
        · have hz : len ≠ 0 := fun q => c (by rw [q]; exact le_t (Nat.le_refl 0) (by decide))
          rw [if_neg (by omega)] at nx
          refine one_ev (by omega) (by omega) ⟨_, rfl, ?_⟩
          rw [SH_add]
          have e : SH (fun l => ct (cyl p n x) l + o1 len l) = SH (ct (cyl p n x ++ [(wk p n (cyv p n x) x).1])) := by
            refine SH_congr (fun l _ _ => ?_)
            rw [← hlen]
            simp [ct, o1, List.count_append, List.count_singleton]
            by_cases q : len = l
            · simp [q]
            · simp [q, Ne.symm q]
          rw [e]
          exact nx
      have inner : ∀ r s v y m', s + r = n → y < n → m' < 4096 → (∀ z, m'.testBit z = v z) → s + (wk p r v y).1 = (wk p n (cyv p n x) x).1 → (wk p r v y).2 = (wk p n (cyv p n x) x).2 →
          Wm (d + 1) (0, 0) JX8_lengthsOf 24 [some (.long (PK n p)), none, some (.int (nI n)), some (.long (SH (ct (cyl p n x)))), none, some (.int (nI m')), some (.int (nI x)), some (.int (nI s)), some (.int (nI y)), some (.int (nI s))] [] h (fun r h' => h'.1 0 = h.1 0 ∧ K r h') := by
        intro r
        induction r with
        | zero =>
          intro s v y m' hs hy hm' hv' e1 e2
          refine bk_X8_lengthsOf_24 _ _ _ _ _ _ _ _ ⟨fun _ => ?_, fun c => absurd (le_t (by omega) (by omega)) c⟩
          exact after s m' e1 hm' (fun z => by rw [hv', ← e2]; rfl)
        | succ r ihr =>
          intro s v y m' hs hy hm' hv' e1 e2
          refine bk_X8_lengthsOf_24 _ _ _ _ _ _ _ _ ⟨fun c => absurd c (le_f (by omega) (by omega)), fun _ => ?_⟩
          rw [get_bit (by omega) (by omega), hv']
          by_cases hvy : v y = true
          · rw [wk_t p r hvy] at e1 e2
            simp only [hvy, if_true]
            refine ⟨fun _ => ?_, fun c => absurd c (ne_f (a := 1) (b := 0) (by decide) (by decide) (by decide))⟩
            exact after s m' e1 hm' (fun z => by rw [hv', ← e2])
          · rw [wk_f p r hvy] at e1 e2
            dsimp only at e1 e2
            simp only [hvy]
            refine ⟨fun c => absurd rfl c, fun _ => ?_⟩
            refine at_ev hn hy (fun i hi => by have := hp i hi; omega) ⟨_, rfl, ?_⟩
            rw [set_bit (by omega), nI_1]
            refine ihr (s + 1) (vs v y) (p y) (m' ||| 2 ^ y) (by omega) (hp y hy) (or_lt (k := 12) hm' (by omega)) (fun z => ?_) (by rw [← e1]; omega) e2
            rw [tb_or, hv']
            simp only [vs]
            by_cases q : z = y
            · subst q; simp
            · simp [q, Ne.symm q]
      exact inner n 0 (cyv p n x) x m (by omega) (by omega) hm hv (by omega) rfl
  have h0 := outer n 0 0 (by omega) (by decide) (fun z => by simp [cyv])
  have e0 : SH (ct (cyl p n 0)) = 0 := by
    have : SH (ct (cyl p n 0)) = SH (fun _ => 0) := SH_congr (fun l _ _ => by simp [ct, cyl])
    rw [this]; rfl
  rw [e0] at h0
  exact h0
end ShapesEv

def tb_IS (sf sg sc : Nat → Int32) : Prop := ∀ c, c < 4 → ∃ m, m ≤ 5 ∧ sc c = nI m ∧ ∀ i, i < m → (∃ n, tb_ok n ∧ sf (5 * c + i) = nI n) ∧ (∃ g, g ≤ 2 ∧ sg (5 * c + i) = nI g)
def tb_IQ (qc : Nat → Int32) : Prop := ∀ c, c < 4 → ∃ m, m ≤ 12 ∧ qc c = nI m
def tb_IK (kt : Nat → Int32) (kc : Int32) : Prop := ∃ m, m ≤ 8 ∧ kc = nI m ∧ (∀ i, i < m → ∃ n, tb_ok n ∧ kt i = nI n) ∧ (∀ i j, i < j → j < m → kt i < kt j)
theorem tb_IS_0 : tb_IS (fun _ => 0) (fun _ => 0) (fun _ => 0) := fun c _ => ⟨0, by omega, rfl, fun i h => absurd h (Nat.not_lt_zero i)⟩
theorem tb_IQ_0 : tb_IQ (fun _ => 0) := fun c _ => ⟨0, by omega, rfl⟩
theorem tb_IK_0 : tb_IK (fun _ => 0) 0 := ⟨0, by omega, rfl, fun i h => absurd h (Nat.not_lt_zero i), fun i j _ h => absurd h (Nat.not_lt_zero j)⟩
theorem tb_IQ_u {qc : Nat → Int32} {c m : Nat} (h : tb_IQ qc) (hm : m ≤ 12) : tb_IQ (upd qc c (nI m)) := by
  intro d hd
  by_cases e : d = c
  · subst e
    exact ⟨m, hm, pk_us⟩
  · rw [pk_un e]
    exact h d hd
theorem tb_IS_g {sf sg sc : Nat → Int32} {q g : Nat} (h : tb_IS sf sg sc) (hg : g ≤ 2) : tb_IS sf (upd sg q (nI g)) sc := by
  intro c hc
  obtain ⟨m, hm, e, hi⟩ := h c hc
  refine ⟨m, hm, e, fun i h1 => ⟨(hi i h1).1, ?_⟩⟩
  by_cases ej : 5 * c + i = q
  · rw [ej, pk_us]
    exact ⟨g, hg, rfl⟩
  · rw [pk_un ej]
    exact (hi i h1).2
theorem tb_IS_f {sf sg sc : Nat → Int32} {q n : Nat} (h : tb_IS sf sg sc) (hn : tb_ok n) : tb_IS (upd sf q (nI n)) sg sc := by
  intro c hc
  obtain ⟨m, hm, e, hi⟩ := h c hc
  refine ⟨m, hm, e, fun i h1 => ⟨?_, (hi i h1).2⟩⟩
  by_cases ej : 5 * c + i = q
  · rw [ej, pk_us]
    exact ⟨n, hn, rfl⟩
  · rw [pk_un ej]
    exact (hi i h1).1
theorem tb_IS_new {sf sg sc : Nat → Int32} {c m n g : Nat} (h : tb_IS sf sg sc) (hc : c < 4) (em : sc c = nI m) (hm : m < 5) (hn : tb_ok n) (hg : g ≤ 2) :
    tb_IS (upd sf (5 * c + m) (nI n)) (upd sg (5 * c + m) (nI g)) (upd sc c (nI (m + 1))) := by
  intro d hd
  by_cases e : d = c
  · subst e
    refine ⟨m + 1, by omega, pk_us, fun i h1 => ?_⟩
    by_cases ei : i = m
    · subst ei
      rw [pk_us, pk_us]
      exact ⟨⟨n, hn, rfl⟩, ⟨g, hg, rfl⟩⟩
    · rw [pk_un (by omega), pk_un (by omega)]
      obtain ⟨m', hm', e', hi⟩ := h d hd
      have : m' = m := (nI_eq (by omega) (by omega)).mp (e'.symm.trans em)
      exact hi i (by omega)
  · obtain ⟨m', hm', e', hi⟩ := h d hd
    refine ⟨m', hm', by rw [pk_un e]; exact e', fun i h1 => ?_⟩
    rw [pk_un (by omega), pk_un (by omega)]
    exact hi i h1
theorem tb_IS_rem {sf sg sc : Nat → Int32} {c m q : Nat} (h : tb_IS sf sg sc) (hc : c < 4) (em : sc c = nI m) (hm : m ≤ 5) (h1 : 5 * c ≤ q) (h2 : q < 5 * c + m) :
    tb_IS (tb_sh (5 * c + m - 1 - q) q sf) (tb_sh (5 * c + m - 1 - q) q sg) (upd sc c (nI (m - 1))) := by
  intro d hd
  obtain ⟨m', hm', e', hi⟩ := h d hd
  by_cases e : d = c
  · subst e
    have : m' = m := (nI_eq (by omega) (by omega)).mp (e'.symm.trans em)
    subst this
    refine ⟨m' - 1, by omega, pk_us, fun i h3 => ?_⟩
    rw [tb_sh_at, tb_sh_at]
    by_cases z : q ≤ 5 * d + i ∧ 5 * d + i < q + (5 * d + m' - 1 - q)
    · rw [if_pos z, if_pos z]
      exact hi (i + 1) (by omega)
    · rw [if_neg z, if_neg z]
      exact hi i (by omega)
  · refine ⟨m', hm', by rw [pk_un e]; exact e', fun i h3 => ?_⟩
    rw [tb_sh_at, tb_sh_at, if_neg (by omega), if_neg (by omega)]
    exact hi i h3
theorem tb_IK_rem {kt : Nat → Int32} {m q : Nat} (hm : m ≤ 8) (hq : q < m) (hn : ∀ i, i < m → ∃ n, tb_ok n ∧ kt i = nI n) (hs : ∀ i j, i < j → j < m → kt i < kt j) :
    tb_IK (tb_sh (m - 1 - q) q kt) (nI (m - 1)) := by
  refine ⟨m - 1, by omega, rfl, fun i hi => ?_, fun i j hij hj => ?_⟩
  · rw [tb_sh_at]
    by_cases z : q ≤ i ∧ i < q + (m - 1 - q)
    · rw [if_pos z]
      exact hn (i + 1) (by omega)
    · rw [if_neg z]
      exact hn i (by omega)
  · rw [tb_sh_at, tb_sh_at]
    by_cases z : q ≤ i ∧ i < q + (m - 1 - q)
    · rw [if_pos z, if_pos (by omega)]
      exact hs _ _ (by omega) (by omega)
    · rw [if_neg z]
      by_cases z2 : q ≤ j ∧ j < q + (m - 1 - q)
      · rw [if_pos z2]
        exact hs _ _ (by omega) (by omega)
      · rw [if_neg z2]
        exact hs _ _ (by omega) (by omega)
theorem tb_IK_ins {kt : Nat → Int32} {m q n : Nat} (hm : m < 8) (hq : q ≤ m) (hn : ∀ i, i < m → ∃ n, tb_ok n ∧ kt i = nI n) (hs : ∀ i j, i < j → j < m → kt i < kt j)
    (ho : tb_ok n) (h1 : ∀ j, j < q → kt j < nI n) (h2 : ∀ j, q ≤ j → j < m → nI n < kt j) :
    tb_IK (upd (tb_su (m - q) q kt) q (nI n)) (nI (m + 1)) := by
  have hlo : ∀ j, j < q → upd (tb_su (m - q) q kt) q (nI n) j = kt j := fun j hj => by
    rw [pk_un (by omega), tb_su_at, if_neg (by omega)]
  have hhi : ∀ j, q < j → j ≤ m → upd (tb_su (m - q) q kt) q (nI n) j = kt (j - 1) := fun j hj hj2 => by
    rw [pk_un (by omega), tb_su_at, if_pos (by omega)]
  have hat : upd (tb_su (m - q) q kt) q (nI n) q = nI n := pk_us
  refine ⟨m + 1, by omega, rfl, fun i hi => ?_, fun i j hij hj => ?_⟩
  · rcases Nat.lt_trichotomy i q with z | z | z
    · rw [hlo i z]
      exact hn i (by omega)
    · rw [z, hat]
      exact ⟨n, ho, rfl⟩
    · rw [hhi i z (by omega)]
      exact hn (i - 1) (by omega)
  · rcases Nat.lt_trichotomy i q with z | z | z
    · rw [hlo i z]
      rcases Nat.lt_trichotomy j q with y | y | y
      · rw [hlo j y]
        exact hs i j hij (by omega)
      · rw [y, hat]
        exact h1 i z
      · rw [hhi j y (by omega)]
        exact hs i (j - 1) (by omega) (by omega)
    · rw [z, hat, hhi j (by omega) (by omega)]
      exact h2 (j - 1) (by omega) (by omega)
    · rw [hhi i z (by omega), hhi j (by omega) (by omega)]
      exact hs _ _ (by omega) (by omega)
theorem tb_fp_some {kt : Nat → Int32} {m q : Nat} {t : Int32} (hs : ∀ i j, i < j → j < m → kt i < kt j) (h : tb_fd kt t m 0 = some q) : tb_pl kt t m 0 = q ∧ q < m ∧ kt q = t := by
  obtain ⟨_, hq, e⟩ := tb_fd_some h
  obtain ⟨_, h2, h3, h4⟩ := tb_pl_at (a := kt) (t := t) m 0
  have hq' : q < m := by omega
  refine ⟨?_, hq', e⟩
  rcases Nat.lt_trichotomy (tb_pl kt t m 0) q with z | z | z
  · have y := hs _ _ z hq'
    rw [e] at y
    exact absurd y (h4 (by omega))
  · exact z
  · have y := h3 q (by omega) z
    rw [e] at y
    exact absurd y Int32.lt_irrefl
theorem tb_fp_none {kt : Nat → Int32} {m : Nat} {t : Int32} (hs : ∀ i j, i < j → j < m → kt i < kt j) (h : tb_fd kt t m 0 = none) :
    tb_pl kt t m 0 ≤ m ∧ (∀ j, j < tb_pl kt t m 0 → kt j < t) ∧ (∀ j, tb_pl kt t m 0 ≤ j → j < m → t < kt j) := by
  obtain ⟨_, h2, h3, h4⟩ := tb_pl_at (a := kt) (t := t) m 0
  have hne := tb_fd_none h
  refine ⟨by omega, fun j hj => h3 j (by omega) hj, fun j h5 h6 => ?_⟩
  have hp : tb_pl kt t m 0 < m := by omega
  have hp1 : ¬ kt (tb_pl kt t m 0) < t := h4 (by omega)
  have hj1 : ¬ kt j < t := by
    by_cases ej : tb_pl kt t m 0 = j
    · rw [← ej]
      exact hp1
    · intro z
      exact hp1 (Int32.lt_trans (hs _ _ (by omega) h6) z)
  rcases Int32.lt_or_eq_of_le (Int32.not_lt.mp hj1) with y | y
  · exact y
  · exact absurd y.symm (hne j (by omega) (by omega))
def tb_kc (m : Nat → Bool) : Nat → Nat → Int32 → Int32
  | 0, _, x => x
  | k + 1, i, x => tb_kc m k (i + 1) (if m i = true then x + 1 else x)
abbrev tb_Q : Type := (Nat → Int32) × (Nat → Int32) × (Nat → Int32) × (Nat → Int32) × (Nat → Int32)
def tb_dr (on : Nat → Int32) (c : Nat) (g : Int32) (s : tb_Q) : Bool := if on c = 0 ∧ g = 0 then false else if s.2.2.2.1 c = 12 then false else true
def tb_dv (on : Nat → Int32) (c : Nat) (t v g : Int32) (s : tb_Q) : tb_Q :=
  if on c = 0 ∧ g = 0 then s else if s.2.2.2.1 c = 12 then (s.1, s.2.1, s.2.2.1, s.2.2.2.1, upd s.2.2.2.2 c (s.2.2.2.2 c + 1))
  else (upd s.1 (12 * c + (s.2.2.2.1 c).toNatClampNeg) t, upd s.2.1 (12 * c + (s.2.2.2.1 c).toNatClampNeg) v, upd s.2.2.1 (12 * c + (s.2.2.2.1 c).toNatClampNeg) g, upd s.2.2.2.1 c (s.2.2.2.1 c + 1), s.2.2.2.2)
theorem tb_dv_q {on : Nat → Int32} {c : Nat} {t v g : Int32} {s : tb_Q} (hc : c < 4) (h : tb_IQ s.2.2.2.1) : tb_IQ (tb_dv on c t v g s).2.2.2.1 := by
  unfold tb_dv
  by_cases z : on c = 0 ∧ g = 0
  · rw [if_pos z]
    exact h
  · rw [if_neg z]
    by_cases y : s.2.2.2.1 c = 12
    · rw [if_pos y]
      exact h
    · rw [if_neg y]
      obtain ⟨m, hm, e⟩ := h c hc
      have hm2 : m ≠ 12 := fun w => y (by rw [e, w]; rfl)
      show tb_IQ (upd s.2.2.2.1 c (s.2.2.2.1 c + 1))
      rw [e, nI_1]
      exact tb_IQ_u h (by omega)
def tb_sk (on kt kv : Nat → Int32) (m : Nat → Bool) (c : Nat) (g : Int32) : Nat → Nat → Int32 → tb_Q → Int32 × tb_Q
  | 0, _, n, s => (n, s)
  | k + 1, i, n, s => if m i = true then tb_sk on kt kv m c g k (i + 1) (n + 1) (tb_dv on c (kt i) (kv i) g s) else tb_sk on kt kv m c g k (i + 1) n s
theorem tb_sk_q {on kt kv : Nat → Int32} {m : Nat → Bool} {c : Nat} {g : Int32} (hc : c < 4) : ∀ k i n s, tb_IQ s.2.2.2.1 → tb_IQ (tb_sk on kt kv m c g k i n s).2.2.2.2.1 := by
  intro k
  induction k with
  | zero => exact fun i n s h => h
  | succ k ih =>
    intro i n s h
    rw [tb_sk]
    by_cases z : m i = true
    · rw [if_pos z]
      exact ih _ _ _ (tb_dv_q hc h)
    · rw [if_neg z]
      exact ih _ _ _ h
def tb_mn (a b : Int32) : Int32 := if b ≤ a then b else a
def tb_pb (on bx : Nat → Int32) (t v g : Int32) : Nat → Nat → Int32 → tb_Q → Int32 × tb_Q
  | 0, _, n, s => (n, s)
  | k + 1, c, n, s => if bx c = -1 then tb_pb on bx t v g k (c + 1) n s else tb_pb on bx t v g k (c + 1) (if tb_dr on c (tb_mn (bx c) g) s = true then n + 1 else n) (tb_dv on c t v (tb_mn (bx c) g) s)
theorem tb_pb_q {on bx : Nat → Int32} {t v g : Int32} : ∀ k c n s, c + k = 4 → tb_IQ s.2.2.2.1 → tb_IQ (tb_pb on bx t v g k c n s).2.2.2.2.1 := by
  intro k
  induction k with
  | zero => exact fun c n s _ h => h
  | succ k ih =>
    intro c n s hc h
    rw [tb_pb]
    by_cases z : bx c = -1
    · rw [if_pos z]
      exact ih _ _ _ (by omega) h
    · rw [if_neg z]
      exact ih _ _ _ (by omega) (tb_dv_q (by omega) h)
def tb_rc (bx : Nat → Int32) : Nat → Nat → Int32 → Int32
  | 0, _, x => x
  | k + 1, c, x => tb_rc bx k (c + 1) (if bx c = -1 then x else x ||| ((1 : Int32) <<< (nI c &&& 31)))
def tb_bx (sf sg sc : Nat → Int32) (c : Nat) (t : Int32) : Int32 := tb_bg sg (fun i => tb_Ci (sf i) t) (sc c).toNatClampNeg (5 * c) (-1)
def tb_by (sf sg sc : Nat → Int32) (c : Nat) (t : Int32) : Int32 := tb_bg sg (fun i => tb_Ci (sf i) t) (sc c).toNatClampNeg (5 * c) (-4)
theorem tb_bxy {sf sg sc : Nat → Int32} {c : Nat} (t : Int32) (h : tb_IS sf sg sc) (hc : c < 4) : tb_BR (tb_bx sf sg sc c t) (tb_by sf sg sc c t) := by
  obtain ⟨m, hm, e, hi⟩ := h c hc
  unfold tb_bx tb_by
  rw [e, nI_clamp (by omega)]
  refine tb_bg_rel _ _ _ _ _ _ (fun j h1 h2 => ?_) (Or.inl ⟨rfl, rfl⟩)
  obtain ⟨i, rfl⟩ : ∃ i, j = 5 * c + i := ⟨j - 5 * c, by omega⟩
  exact (hi i (by omega)).2
theorem tb_bxy_n {x y : Int32} (h : tb_BR x y) : x = -1 ↔ y = -4 := by
  rcases h with ⟨a, b⟩ | ⟨a, g, hg, e⟩
  · exact ⟨fun _ => b, fun _ => a⟩
  · subst a
    rw [e]
    exact ⟨fun z => absurd z (tb_m1lt g hg).2.2.1, fun z => absurd z (tb_m1lt g hg).2.2.2⟩
theorem tb_bxy_e {x y : Int32} (h : tb_BR x y) (n : ¬ x = -1) : y = x := by
  rcases h with ⟨a, b⟩ | ⟨a, _⟩
  · exact absurd a n
  · exact a.symm
theorem tb_b_t {b : Bool} (h : b = true) : tb_b b = 1 := by rw [h]; rfl
theorem tb_b_f {b : Bool} (h : b = false) : tb_b b = 0 := by rw [h]; rfl
theorem tb_b_0 (b : Bool) : tb_b b = 0 ↔ b = false := by cases b <;> decide
theorem tb_b_n (b : Bool) : narrow .boolean (.int (tb_b b)) = .int (tb_b b) := by cases b <;> rfl
def tb_wd (sf sg sc : Nat → Int32) (c t : Nat) : Bool := tb_T (nI t) && decide (tb_bx sf sg sc c (nI t) ≠ -1)
theorem tb_kc_f {m : Nat → Bool} (h : ∀ i, m i = false) : ∀ k i x, tb_kc m k i x = x := by
  intro k
  induction k with
  | zero => exact fun i x => rfl
  | succ k ih =>
    intro i x
    rw [tb_kc, ih, h i]
    rfl
theorem tb_wd_0 {sf sg sc : Nat → Int32} {c : Nat} (h : sc c = 0) (t : Nat) : tb_wd sf sg sc c t = false := by
  unfold tb_wd tb_bx
  rw [h, show (0 : Int32).toNatClampNeg = 0 from by decide]
  show (tb_T (nI t) && decide ((-1 : Int32) ≠ -1)) = false
  rw [show decide ((-1 : Int32) ≠ -1) = false from by decide, Bool.and_false]

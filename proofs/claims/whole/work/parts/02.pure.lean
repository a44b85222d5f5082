def tb_lv (n : Nat) : Nat := if n < 8 then 1 else if n < 64 then 2 else if n < 512 then 3 else 4
def tb_dg (n p : Nat) : Nat := n / 8 ^ (tb_lv n - 1 - p) % 8
def tb_ok (n : Nat) : Prop := 1 ≤ n ∧ n < 4096
def tb_all (g : Nat → Bool) : Nat → Nat → Bool
  | 0, _ => true
  | k + 1, i => g i && tb_all g k (i + 1)
def tb_tp (n p : Nat) : Bool := decide (tb_dg n p ≠ 0 ∧ tb_dg n p ≤ 5)
def tb_fp (n p : Nat) : Bool := decide (tb_dg n p ≠ 0 ∧ ¬ (tb_dg n p = 7 ∧ p < tb_lv n - 1))
def tb_cp (f t p : Nat) : Bool := decide (tb_dg f p = 6 ∨ tb_dg f p = tb_dg t p)
def tb_b : Bool → Int32
  | true => 1
  | false => 0
def tb_in (x : Int32) : Prop := ¬ x < 1 ∧ ¬ 4095 < x
def tb_tn (n : Nat) : Bool := tb_all (tb_tp n) (tb_lv n) 0
def tb_fn (n : Nat) : Bool := tb_all (tb_fp n) (tb_lv n) 0
def tb_T (x : Int32) : Bool := if x < 1 then false else if 4095 < x then false else tb_tn x.toNatClampNeg
def tb_F (x : Int32) : Bool := if x < 1 then false else if 4095 < x then false else tb_fn x.toNatClampNeg
def tb_cw (f : Nat) : Nat := if f % 8 = 7 then tb_lv f - 1 else tb_lv f
def tb_C (f t : Nat) : Bool := if tb_lv t < tb_cw f ∨ (¬ f % 8 = 7 ∧ tb_cw f < tb_lv t) then false else tb_all (tb_cp f t) (tb_cw f) 0
def tb_Ci (f t : Int32) : Bool := tb_C f.toNatClampNeg t.toNatClampNeg
theorem tb_lv_1 (n : Nat) : 1 ≤ tb_lv n ∧ tb_lv n ≤ 4 := by
  unfold tb_lv
  constructor <;> (repeat' split) <;> omega
theorem tb_cw_le (n : Nat) : tb_cw n ≤ tb_lv n := by
  unfold tb_cw
  split <;> omega
theorem tb_cs (x : Int32) : x < 1 ∨ 4095 < x ∨ ∃ n, tb_ok n ∧ x = nI n := by
  by_cases h : x < 1
  · exact Or.inl h
  · by_cases h2 : 4095 < x
    · exact Or.inr (Or.inl h2)
    · have h0 : ¬ x < 0 := fun z => h (Int32.lt_of_lt_of_le z (by decide))
      obtain ⟨j, hj, rfl⟩ := nI_of h0
      refine Or.inr (Or.inr ⟨j, ⟨?_, ?_⟩, rfl⟩)
      · refine Nat.not_lt.mp fun z => h ?_
        exact nI_lt (b := 1) z (by decide)
      · refine Nat.not_le.mp fun z => h2 ?_
        exact nI_lt (a := 4095) z hj
theorem tb_ok1 {n : Nat} (h : tb_ok n) : ¬ nI n < 1 := nI_nlt (b := 1) h.1 (Nat.lt_trans h.2 (by decide))
theorem tb_ok2 {n : Nat} (h : tb_ok n) : ¬ 4095 < nI n := nI_nlt (a := 4095) (Nat.le_of_lt_succ h.2) (by decide)
theorem tb_okl {n : Nat} (h : tb_ok n) : n < 2 ^ 31 := Nat.lt_trans h.2 (by decide)
theorem tb_T_n {n : Nat} (h : tb_ok n) : tb_T (nI n) = tb_tn n := by
  unfold tb_T
  rw [if_neg (tb_ok1 h), if_neg (tb_ok2 h), nI_clamp (tb_okl h)]
theorem tb_F_n {n : Nat} (h : tb_ok n) : tb_F (nI n) = tb_fn n := by
  unfold tb_F
  rw [if_neg (tb_ok1 h), if_neg (tb_ok2 h), nI_clamp (tb_okl h)]
theorem tb_T_ok {x : Int32} (h : tb_T x = true) : ∃ n, tb_ok n ∧ x = nI n := by
  rcases tb_cs x with z | z | z
  · unfold tb_T at h
    rw [if_pos z] at h
    cases h
  · unfold tb_T at h
    by_cases z1 : x < 1
    · rw [if_pos z1] at h
      cases h
    · rw [if_neg z1, if_pos z] at h
      cases h
  · exact z
theorem tb_F_ok {x : Int32} (h : tb_F x = true) : ∃ n, tb_ok n ∧ x = nI n := by
  rcases tb_cs x with z | z | z
  · unfold tb_F at h
    rw [if_pos z] at h
    cases h
  · unfold tb_F at h
    by_cases z1 : x < 1
    · rw [if_pos z1] at h
      cases h
    · rw [if_neg z1, if_pos z] at h
      cases h
  · exact z
theorem tb_T_1 {x : Int32} (h : x < 1) : tb_T x = false := by unfold tb_T; rw [if_pos h]
theorem tb_F_1 {x : Int32} (h : x < 1) : tb_F x = false := by unfold tb_F; rw [if_pos h]
theorem tb_T_2 {x : Int32} (h : 4095 < x) : tb_T x = false := by
  unfold tb_T
  by_cases z : x < 1
  · rw [if_pos z]
  · rw [if_neg z, if_pos h]
theorem tb_F_2 {x : Int32} (h : 4095 < x) : tb_F x = false := by
  unfold tb_F
  by_cases z : x < 1
  · rw [if_pos z]
  · rw [if_neg z, if_pos h]
def tb_cn : Nat → Nat → Nat
  | 0, _ => 0
  | k + 1, n => if n = 0 then 0 else 1 + tb_cn k (n / 8)
theorem tb_cn_0 (k : Nat) : tb_cn k 0 = 0 := by cases k <;> rfl
theorem tb_cn_s (k : Nat) {n : Nat} (h : n ≠ 0) : tb_cn (k + 1) n = 1 + tb_cn k (n / 8) := if_neg h
theorem tb_cn_le : ∀ k n, tb_cn k n ≤ k := by
  intro k
  induction k with
  | zero => exact fun n => Nat.le_refl 0
  | succ k ih =>
    intro n
    by_cases h : n = 0
    · subst h
      rw [tb_cn_0]
      omega
    · rw [tb_cn_s k h]
      have := ih (n / 8)
      omega
theorem tb_cn_lv {n : Nat} (h : tb_ok n) : tb_cn 11 n = tb_lv n := by
  obtain ⟨h1, h2⟩ := h
  unfold tb_lv
  rw [tb_cn_s 10 (by omega)]
  by_cases a : n < 8
  · rw [if_pos a, show n / 8 = 0 by omega, tb_cn_0]
  rw [if_neg a, tb_cn_s 9 (show n / 8 ≠ 0 by omega)]
  by_cases b : n < 64
  · rw [if_pos b, show n / 8 / 8 = 0 by omega, tb_cn_0]
  rw [if_neg b, tb_cn_s 8 (show n / 8 / 8 ≠ 0 by omega)]
  by_cases c : n < 512
  · rw [if_pos c, show n / 8 / 8 / 8 = 0 by omega, tb_cn_0]
  rw [if_neg c, tb_cn_s 7 (show n / 8 / 8 / 8 ≠ 0 by omega), show n / 8 / 8 / 8 / 8 = 0 by omega, tb_cn_0]
theorem tb_cn_big {n : Nat} (h : 4096 ≤ n) : 4 < tb_cn 11 n := by
  rw [tb_cn_s 10 (by omega), tb_cn_s 9 (show n / 8 ≠ 0 by omega), tb_cn_s 8 (show n / 8 / 8 ≠ 0 by omega), tb_cn_s 7 (show n / 8 / 8 / 8 ≠ 0 by omega), tb_cn_s 6 (show n / 8 / 8 / 8 / 8 ≠ 0 by omega)]
  omega
theorem tb_dg_lt (n p : Nat) : tb_dg n p < 8 := Nat.mod_lt _ (by decide)
theorem tb_dgx_1 {n : Nat} (h : n < 4096) (k : Nat) (s : Int32) (hs : (s.toBitVec.smod 32).toNat = k) : (nI n >>> s) &&& 7 = nI (n / 2 ^ k % 8) := by
  rw [pk_shrN (n := n) (by omega) s k hs]
  exact pk_andN (n := n / 2 ^ k) (m := 7) (Nat.lt_of_le_of_lt (Nat.div_le_self _ _) (by omega)) 3 (by decide)
theorem tb_dgx_k {n : Nat} (h : n < 4096) : ∀ k, k < 4 → (nI n >>> ((3 * nI k) &&& 31)) &&& 7 = nI (n / 8 ^ k % 8) := by
  intro k hk
  match k, hk with
  | 0, _ => exact tb_dgx_1 h 0 _ (by decide)
  | 1, _ => exact tb_dgx_1 h 3 _ (by decide)
  | 2, _ => exact tb_dgx_1 h 6 _ (by decide)
  | 3, _ => exact tb_dgx_1 h 9 _ (by decide)
theorem tb_dgx {n p : Nat} (h : tb_ok n) (hp : p < tb_lv n) : (nI n >>> ((3 * (nI (tb_lv n) - 1 - nI p)) &&& 31)) &&& 7 = nI (tb_dg n p) := by
  have h4 := tb_lv_1 n
  have e : nI (tb_lv n) - 1 - nI p = nI (tb_lv n - 1 - p) := by
    rw [show (1 : Int32) = nI 1 from rfl, pk_sub (by omega), pk_sub (by omega)]
  rw [e]
  exact tb_dgx_k h.2 _ (by omega)
theorem tb_m8 {n : Nat} (h : tb_ok n) : nI n &&& 7 = nI (n % 8) := pk_andN (Nat.lt_trans h.2 (by decide)) 3 (by decide)
theorem tb_dg_last (n : Nat) : tb_dg n (tb_lv n - 1) = n % 8 := by
  unfold tb_dg
  rw [Nat.sub_self, Nat.pow_zero, Nat.div_one]
theorem tb_d_neg : ∀ d, d < 8 → (nI d - 1 < 0 ↔ d = 0) := by decide +kernel
theorem tb_d_gt4 : ∀ d, d < 8 → (4 < nI d - 1 ↔ 5 < d) := by decide +kernel
theorem tb_d_6 : ∀ d, d < 8 → (nI d - 1 = 6 ↔ d = 7) := by decide +kernel
theorem tb_d_5 : ∀ d, d < 8 → (nI d - 1 = 5 ↔ d = 6) := by decide +kernel
theorem tb_d_le4 : ∀ d, d < 8 → (nI d - 1 ≤ 4 ↔ d ≤ 5) := by decide +kernel
theorem tb_d_0le : ∀ d, d < 8 → (0 ≤ nI d - 1 ↔ d ≠ 0) := by decide +kernel
theorem tb_d_eq : ∀ d, d < 8 → ∀ e, e < 8 → (nI d - 1 = nI e - 1 ↔ d = e) := by decide +kernel
theorem tb_all_0 (g : Nat → Bool) (i : Nat) : tb_all g 0 i = true := rfl
theorem tb_all_f {g : Nat → Bool} {k i : Nat} (h : g i = false) : tb_all g (k + 1) i = false := by
  show (g i && tb_all g k (i + 1)) = false
  rw [h]
  rfl
theorem tb_all_t {g : Nat → Bool} {k i : Nat} (h : g i = true) : tb_all g (k + 1) i = tb_all g k (i + 1) := by
  show (g i && tb_all g k (i + 1)) = _
  rw [h]
  rfl
def tb_sh : Nat → Nat → (Nat → Int32) → (Nat → Int32)
  | 0, _, a => a
  | k + 1, i, a => tb_sh k (i + 1) (upd a i (a (i + 1)))
theorem tb_sh_at : ∀ k i a j, tb_sh k i a j = if i ≤ j ∧ j < i + k then a (j + 1) else a j := by
  intro k
  induction k with
  | zero =>
    intro i a j
    rw [if_neg (by omega)]
    rfl
  | succ k ih =>
    intro i a j
    show tb_sh k (i + 1) (upd a i (a (i + 1))) j = _
    rw [ih]
    by_cases h1 : i + 1 ≤ j ∧ j < i + 1 + k
    · rw [if_pos h1, if_pos (by omega), pk_un (by omega)]
    · rw [if_neg h1]
      by_cases h2 : j = i
      · subst h2
        rw [pk_us, if_pos (by omega)]
      · rw [pk_un h2, if_neg (by omega)]
def tb_su : Nat → Nat → (Nat → Int32) → (Nat → Int32)
  | 0, _, a => a
  | k + 1, p, a => tb_su k p (upd a (p + k + 1) (a (p + k)))
theorem tb_su_at : ∀ k p a j, tb_su k p a j = if p < j ∧ j ≤ p + k then a (j - 1) else a j := by
  intro k
  induction k with
  | zero =>
    intro p a j
    rw [if_neg (by omega)]
    rfl
  | succ k ih =>
    intro p a j
    show tb_su k p (upd a (p + k + 1) (a (p + k))) j = _
    rw [ih]
    by_cases h1 : p < j ∧ j ≤ p + k
    · rw [if_pos h1, if_pos (by omega), pk_un (by omega)]
    · rw [if_neg h1]
      by_cases h2 : j = p + k + 1
      · subst h2
        rw [pk_us, if_pos (by omega)]
        rfl
      · rw [pk_un h2, if_neg (by omega)]
def tb_bg (gr : Nat → Int32) (m : Nat → Bool) : Nat → Nat → Int32 → Int32
  | 0, _, b => b
  | k + 1, i, b => tb_bg gr m k (i + 1) (if b < gr i ∧ m i = true then gr i else b)
def tb_BR (x y : Int32) : Prop := (x = -1 ∧ y = -4) ∨ (x = y ∧ ∃ g, g ≤ 2 ∧ x = nI g)
theorem tb_m1lt : ∀ g, g ≤ 2 → ((-1 : Int32) < nI g) ∧ ((-4 : Int32) < nI g) ∧ nI g ≠ -1 ∧ nI g ≠ -4 := by
  intro g hg
  match g, hg with
  | 0, _ => decide
  | 1, _ => decide
  | 2, _ => decide
theorem tb_bg_rel (gr : Nat → Int32) (m : Nat → Bool) : ∀ k i x y, (∀ j, i ≤ j → j < i + k → ∃ g, g ≤ 2 ∧ gr j = nI g) → tb_BR x y → tb_BR (tb_bg gr m k i x) (tb_bg gr m k i y) := by
  intro k
  induction k with
  | zero => exact fun i x y _ h => h
  | succ k ih =>
    intro i x y hg h
    show tb_BR (tb_bg gr m k (i + 1) _) (tb_bg gr m k (i + 1) _)
    refine ih (i + 1) _ _ (fun j h1 h2 => hg j (by omega) (by omega)) ?_
    obtain ⟨g, hg2, eg⟩ := hg i (by omega) (by omega)
    rcases h with ⟨hx, hy⟩ | ⟨hx, hy⟩
    · subst hx hy
      by_cases hm : m i = true
      · rw [if_pos ⟨by rw [eg]; exact (tb_m1lt g hg2).1, hm⟩, if_pos ⟨by rw [eg]; exact (tb_m1lt g hg2).2.1, hm⟩]
        exact Or.inr ⟨rfl, g, hg2, eg⟩
      · rw [if_neg (fun z => hm z.2), if_neg (fun z => hm z.2)]
        exact Or.inl ⟨rfl, rfl⟩
    · subst hx
      by_cases hm : x < gr i ∧ m i = true
      · rw [if_pos hm]
        exact Or.inr ⟨rfl, g, hg2, eg⟩
      · rw [if_neg hm]
        exact Or.inr ⟨rfl, hy⟩
def tb_fd (a : Nat → Int32) (f : Int32) : Nat → Nat → Option Nat
  | 0, _ => none
  | k + 1, i => if a i = f then some i else tb_fd a f k (i + 1)
theorem tb_fd_some {a : Nat → Int32} {f : Int32} : ∀ {k i q}, tb_fd a f k i = some q → i ≤ q ∧ q < i + k ∧ a q = f := by
  intro k
  induction k with
  | zero => intro i q h; cases h
  | succ k ih =>
    intro i q h
    by_cases e : a i = f
    · rw [tb_fd, if_pos e] at h
      cases h
      exact ⟨by omega, by omega, e⟩
    · rw [tb_fd, if_neg e] at h
      obtain ⟨h1, h2, h3⟩ := ih h
      exact ⟨by omega, by omega, h3⟩
theorem tb_fd_none {a : Nat → Int32} {f : Int32} : ∀ {k i}, tb_fd a f k i = none → ∀ j, i ≤ j → j < i + k → a j ≠ f := by
  intro k
  induction k with
  | zero => intro i h j h1 h2; omega
  | succ k ih =>
    intro i h j h1 h2
    by_cases e : a i = f
    · rw [tb_fd, if_pos e] at h
      cases h
    · rw [tb_fd, if_neg e] at h
      by_cases ej : j = i
      · subst ej
        exact e
      · exact ih h j (by omega) (by omega)
def tb_pl (a : Nat → Int32) (t : Int32) : Nat → Nat → Nat
  | 0, i => i
  | k + 1, i => if a i < t then tb_pl a t k (i + 1) else i
theorem tb_pl_at {a : Nat → Int32} {t : Int32} : ∀ k i, i ≤ tb_pl a t k i ∧ tb_pl a t k i ≤ i + k ∧ (∀ j, i ≤ j → j < tb_pl a t k i → a j < t) ∧ (tb_pl a t k i < i + k → ¬ a (tb_pl a t k i) < t) := by
  intro k
  induction k with
  | zero => exact fun i => ⟨Nat.le_refl i, Nat.le_refl i, fun j h1 h2 => absurd h2 (by show ¬ j < i; omega), fun h => absurd h (by show ¬ i < i; omega)⟩
  | succ k ih =>
    intro i
    by_cases e : a i < t
    · rw [tb_pl, if_pos e]
      obtain ⟨h1, h2, h3, h4⟩ := ih (i + 1)
      refine ⟨by omega, by omega, fun j h5 h6 => ?_, fun h => h4 (by omega)⟩
      by_cases ej : j = i
      · subst ej
        exact e
      · exact h3 j (by omega) h6
    · rw [tb_pl, if_neg e]
      exact ⟨Nat.le_refl i, by omega, fun j h1 h2 => absurd h2 (by omega), fun _ => e⟩

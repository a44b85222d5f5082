section
theorem pk_us {f : Nat → Int32} {k : Nat} {x : Int32} : upd f k x k = x := if_pos rfl
theorem pk_un {f : Nat → Int32} {k j : Nat} {x : Int32} (h : j ≠ k) : upd f k x j = f j := if_neg h
theorem pk_sub {a b : Nat} (h : b ≤ a) : nI a - nI b = nI (a - b) := by
  obtain ⟨c, rfl⟩ : ∃ c, a = c + b := ⟨a - b, by omega⟩
  rw [← nI_add, Int32.add_sub_cancel, Nat.add_sub_cancel]
theorem pk_m1 (n : Nat) : nI (n + 1) + (-1) = nI n := by
  rw [← nI_1, Int32.add_assoc, show (1 : Int32) + (-1) = 0 from rfl, Int32.add_zero]
theorem pk_mul (a b : Nat) : nI a * nI b = nI (a * b) := (Int32.ofNat_mul a b).symm
theorem pk_div {a d : Nat} (ha : a < 2 ^ 31) (h0 : 0 < d) (hd : d < 2 ^ 31) : nI a / nI d = nI (a / d) := by
  apply Int32.toInt_inj.mp
  rw [lg_idiv_nonneg (by rw [nI_toInt ha]; omega) (by rw [nI_toInt hd]; omega), nI_toInt ha, nI_toInt hd, nI_toInt (Nat.lt_of_le_of_lt (Nat.div_le_self a d) ha)]
  first | rfl | exact (Int.natCast_ediv _ _).symm
theorem pk_rem {a d : Nat} (ha : a < 2 ^ 31) (h0 : 0 < d) (hd : d < 2 ^ 31) : nI a - nI a / nI d * nI d = nI (a % d) := by
  rw [pk_div ha h0 hd, pk_mul, pk_sub (Nat.div_mul_le_self a d)]
  exact congrArg nI (by have := Nat.div_add_mod' a d; omega)
theorem pk_le {x y : Int32} {A B : Prop} (a b : Nat) (f : a ≤ b → A) (g : b < a → B) (hx : x = nI a := by rfl) (hy : y = nI b := by rfl) (ha : a < 2 ^ 31 := by omega) (hb : b < 2 ^ 31 := by omega) : (x ≤ y → A) ∧ (¬ x ≤ y → B) := by
  subst hx hy
  rw [nI_leI ha hb]
  exact ⟨f, fun z => g (by omega)⟩
theorem pk_lt {x y : Int32} {A B : Prop} (a b : Nat) (f : a < b → A) (g : b ≤ a → B) (hx : x = nI a := by rfl) (hy : y = nI b := by rfl) (ha : a < 2 ^ 31 := by omega) (hb : b < 2 ^ 31 := by omega) : (x < y → A) ∧ (¬ x < y → B) := by
  subst hx hy
  rw [nI_ltI ha hb]
  exact ⟨f, fun z => g (by omega)⟩
theorem pk_eq {x y : Int32} {A B : Prop} (a b : Nat) (f : a = b → A) (g : a ≠ b → B) (hx : x = nI a := by rfl) (hy : y = nI b := by rfl) (ha : a < 2 ^ 31 := by omega) (hb : b < 2 ^ 31 := by omega) : (x = y → A) ∧ (¬ x = y → B) := by
  subst hx hy
  rw [nI_eq ha hb]
  exact ⟨f, g⟩
theorem pk_in {x : Int32} (n N : Nat) (h : n < N) (hx : x = nI n := by rfl) (hN : N < 2 ^ 31 := by omega) : vp_in x N := by
  subst hx
  exact vp_in_nI h hN
theorem pk_cl {x : Int32} (n : Nat) (hx : x = nI n := by rfl) (h : n < 2 ^ 31 := by omega) : x.toNatClampNeg = n := by
  subst hx
  exact nI_clamp h
theorem pk_tn {n : Nat} (h : n < 2 ^ 32) : (nI n).toBitVec.toNat = n := Nat.mod_eq_of_lt h
theorem pk_and (x : Int32) {m : Int32} (k : Nat) (hm : m.toBitVec.toNat = 2 ^ k - 1) : x &&& m = nI (x.toBitVec.toNat % 2 ^ k) := by
  apply Int32.toBitVec_inj.mp
  apply BitVec.eq_of_toNat_eq
  rw [Int32.toBitVec_and, BitVec.toNat_and, hm, Nat.and_two_pow_sub_one_eq_mod]
  show _ = (BitVec.ofNat 32 _).toNat
  rw [BitVec.toNat_ofNat]
  exact (Nat.mod_eq_of_lt (Nat.lt_of_le_of_lt (Nat.mod_le _ _) x.toBitVec.isLt)).symm
theorem pk_andN {n : Nat} (h : n < 2 ^ 32) {m : Int32} (k : Nat) (hm : m.toBitVec.toNat = 2 ^ k - 1) : nI n &&& m = nI (n % 2 ^ k) := by
  rw [pk_and _ k hm, pk_tn h]
theorem pk_shr (a s : Int32) (k : Nat) (hs : (s.toBitVec.smod 32).toNat = k) : (a >>> s).toInt = a.toInt >>> k := by
  show (a.toBitVec.sshiftRight (s.toBitVec.smod 32).toNat).toInt = _
  rw [hs, BitVec.toInt_sshiftRight]
  rfl
theorem pk_shrN {n : Nat} (h : n < 2 ^ 31) (s : Int32) (k : Nat) (hs : (s.toBitVec.smod 32).toNat = k) : nI n >>> s = nI (n / 2 ^ k) := by
  apply Int32.toInt_inj.mp
  have h2 : n / 2 ^ k ≤ n := Nat.div_le_self _ _
  rw [pk_shr _ _ k hs, nI_toInt h, nI_toInt (by omega), Int.shiftRight_eq_div_pow]
  rfl
end
section
def tb_lv (n : Nat) : Nat := if n < 8 then 1 else if n < 64 then 2 else if n < 512 then 3 else 4
def tb_dg (n p : Nat) : Nat := n / 8 ^ (tb_lv n - 1 - p) % 8
def tb_ok (n : Nat) : Prop := 1 ≤ n ∧ n < 4096
def tb_all (g : Nat → Bool) : Nat → Nat → Bool
  | 0, _ => true
  | k + 1, i => g i && tb_all g k (i + 1)
def tb_tp (n p : Nat) : Bool := decide (tb_dg n p ≠ 0 ∧ tb_dg n p ≤ 5)
def tb_fp (n p : Nat) : Bool := decide (tb_dg n p ≠ 0 ∧ ¬ (tb_dg n p = 7 ∧ p < tb_lv n - 1))
def tb_cp (f t p : Nat) : Bool := decide (tb_dg f p = 6 ∨ tb_dg f p = tb_dg t p)
def tb_b : Bool → Int32
  | true => 1
  | false => 0
def tb_in (x : Int32) : Prop := ¬ x < 1 ∧ ¬ 4095 < x
def tb_tn (n : Nat) : Bool := tb_all (tb_tp n) (tb_lv n) 0
def tb_fn (n : Nat) : Bool := tb_all (tb_fp n) (tb_lv n) 0
def tb_T (x : Int32) : Bool := if x < 1 then false else if 4095 < x then false else tb_tn x.toNatClampNeg
def tb_F (x : Int32) : Bool := if x < 1 then false else if 4095 < x then false else tb_fn x.toNatClampNeg
def tb_cw (f : Nat) : Nat := if f % 8 = 7 then tb_lv f - 1 else tb_lv f
def tb_C (f t : Nat) : Bool := if tb_lv t < tb_cw f ∨ (¬ f % 8 = 7 ∧ tb_cw f < tb_lv t) then false else tb_all (tb_cp f t) (tb_cw f) 0
def tb_Ci (f t : Int32) : Bool := tb_C f.toNatClampNeg t.toNatClampNeg
theorem tb_lv_1 (n : Nat) : 1 ≤ tb_lv n ∧ tb_lv n ≤ 4 := by
  unfold tb_lv
  constructor <;> (repeat' split) <;> omega
theorem tb_cw_le (n : Nat) : tb_cw n ≤ tb_lv n := by
  unfold tb_cw
  split <;> omega
theorem tb_cs (x : Int32) : x < 1 ∨ 4095 < x ∨ ∃ n, tb_ok n ∧ x = nI n := by
  by_cases h : x < 1
  · exact Or.inl h
  · by_cases h2 : 4095 < x
    · exact Or.inr (Or.inl h2)
    · have h0 : ¬ x < 0 := fun z => h (Int32.lt_of_lt_of_le z (by decide))
      obtain ⟨j, hj, rfl⟩ := nI_of h0
      refine Or.inr (Or.inr ⟨j, ⟨?_, ?_⟩, rfl⟩)
      · refine Nat.not_lt.mp fun z => h ?_
        exact nI_lt (b := 1) z (by decide)
      · refine Nat.not_le.mp fun z => h2 ?_
        exact nI_lt (a := 4095) z hj
theorem tb_ok1 {n : Nat} (h : tb_ok n) : ¬ nI n < 1 := nI_nlt (b := 1) h.1 (Nat.lt_trans h.2 (by decide))
theorem tb_ok2 {n : Nat} (h : tb_ok n) : ¬ 4095 < nI n := nI_nlt (a := 4095) (Nat.le_of_lt_succ h.2) (by decide)
theorem tb_okl {n : Nat} (h : tb_ok n) : n < 2 ^ 31 := Nat.lt_trans h.2 (by decide)
theorem tb_T_n {n : Nat} (h : tb_ok n) : tb_T (nI n) = tb_tn n := by
  unfold tb_T
  rw [if_neg (tb_ok1 h), if_neg (tb_ok2 h), nI_clamp (tb_okl h)]
theorem tb_F_n {n : Nat} (h : tb_ok n) : tb_F (nI n) = tb_fn n := by
  unfold tb_F
  rw [if_neg (tb_ok1 h), if_neg (tb_ok2 h), nI_clamp (tb_okl h)]
theorem tb_T_ok {x : Int32} (h : tb_T x = true) : ∃ n, tb_ok n ∧ x = nI n := by
  rcases tb_cs x with z | z | z
  · unfold tb_T at h
    rw [if_pos z] at h
    cases h
  · unfold tb_T at h
    by_cases z1 : x < 1
    · rw [if_pos z1] at h
      cases h
    · rw [if_neg z1, if_pos z] at h
      cases h
  · exact z
theorem tb_F_ok {x : Int32} (h : tb_F x = true) : ∃ n, tb_ok n ∧ x = nI n := by
  rcases tb_cs x with z | z | z
  · unfold tb_F at h
    rw [if_pos z] at h
    cases h
  · unfold tb_F at h
    by_cases z1 : x < 1
    · rw [if_pos z1] at h
      cases h
    · rw [if_neg z1, if_pos z] at h
      cases h
  · exact z
theorem tb_T_1 {x : Int32} (h : x < 1) : tb_T x = false := by unfold tb_T; rw [if_pos h]
theorem tb_F_1 {x : Int32} (h : x < 1) : tb_F x = false := by unfold tb_F; rw [if_pos h]
theorem tb_T_2 {x : Int32} (h : 4095 < x) : tb_T x = false := by
  unfold tb_T
  by_cases z : x < 1
  · rw [if_pos z]
  · rw [if_neg z, if_pos h]
theorem tb_F_2 {x : Int32} (h : 4095 < x) : tb_F x = false := by
  unfold tb_F
  by_cases z : x < 1
  · rw [if_pos z]
  · rw [if_neg z, if_pos h]
def tb_cn : Nat → Nat → Nat
  | 0, _ => 0
  | k + 1, n => if n = 0 then 0 else 1 + tb_cn k (n / 8)
theorem tb_cn_0 (k : Nat) : tb_cn k 0 = 0 := by cases k <;> rfl
theorem tb_cn_s (k : Nat) {n : Nat} (h : n ≠ 0) : tb_cn (k + 1) n = 1 + tb_cn k (n / 8) := if_neg h
theorem tb_cn_le : ∀ k n, tb_cn k n ≤ k := by
  intro k
  induction k with
  | zero => exact fun n => Nat.le_refl 0
  | succ k ih =>
    intro n
    by_cases h : n = 0
    · subst h
      rw [tb_cn_0]
      omega
    · rw [tb_cn_s k h]
      have := ih (n / 8)
      omega
theorem tb_cn_lv {n : Nat} (h : tb_ok n) : tb_cn 11 n = tb_lv n := by
  obtain ⟨h1, h2⟩ := h
  unfold tb_lv
  rw [tb_cn_s 10 (by omega)]
  by_cases a : n < 8
  · rw [if_pos a, show n / 8 = 0 by omega, tb_cn_0]
  rw [if_neg a, tb_cn_s 9 (show n / 8 ≠ 0 by omega)]
  by_cases b : n < 64
  · rw [if_pos b, show n / 8 / 8 = 0 by omega, tb_cn_0]
  rw [if_neg b, tb_cn_s 8 (show n / 8 / 8 ≠ 0 by omega)]
  by_cases c : n < 512
  · rw [if_pos c, show n / 8 / 8 / 8 = 0 by omega, tb_cn_0]
  rw [if_neg c, tb_cn_s 7 (show n / 8 / 8 / 8 ≠ 0 by omega), show n / 8 / 8 / 8 / 8 = 0 by omega, tb_cn_0]
theorem tb_cn_big {n : Nat} (h : 4096 ≤ n) : 4 < tb_cn 11 n := by
  rw [tb_cn_s 10 (by omega), tb_cn_s 9 (show n / 8 ≠ 0 by omega), tb_cn_s 8 (show n / 8 / 8 ≠ 0 by omega), tb_cn_s 7 (show n / 8 / 8 / 8 ≠ 0 by omega), tb_cn_s 6 (show n / 8 / 8 / 8 / 8 ≠ 0 by omega)]
  omega
theorem tb_dg_lt (n p : Nat) : tb_dg n p < 8 := Nat.mod_lt _ (by decide)
theorem tb_dgx_1 {n : Nat} (h : n < 4096) (k : Nat) (s : Int32) (hs : (s.toBitVec.smod 32).toNat = k) : (nI n >>> s) &&& 7 = nI (n / 2 ^ k % 8) := by
  rw [pk_shrN (n := n) (by omega) s k hs]
  exact pk_andN (n := n / 2 ^ k) (m := 7) (Nat.lt_of_le_of_lt (Nat.div_le_self _ _) (by omega)) 3 (by decide)
theorem tb_dgx_k {n : Nat} (h : n < 4096) : ∀ k, k < 4 → (nI n >>> ((3 * nI k) &&& 31)) &&& 7 = nI (n / 8 ^ k % 8) := by
  intro k hk
  match k, hk with
  | 0, _ => exact tb_dgx_1 h 0 _ (by decide)
  | 1, _ => exact tb_dgx_1 h 3 _ (by decide)
  | 2, _ => exact tb_dgx_1 h 6 _ (by decide)
  | 3, _ => exact tb_dgx_1 h 9 _ (by decide)
theorem tb_dgx {n p : Nat} (h : tb_ok n) (hp : p < tb_lv n) : (nI n >>> ((3 * (nI (tb_lv n) - 1 - nI p)) &&& 31)) &&& 7 = nI (tb_dg n p) := by
  have h4 := tb_lv_1 n
  have e : nI (tb_lv n) - 1 - nI p = nI (tb_lv n - 1 - p) := by
    rw [show (1 : Int32) = nI 1 from rfl, pk_sub (by omega), pk_sub (by omega)]
  rw [e]
  exact tb_dgx_k h.2 _ (by omega)
theorem tb_m8 {n : Nat} (h : tb_ok n) : nI n &&& 7 = nI (n % 8) := pk_andN (Nat.lt_trans h.2 (by decide)) 3 (by decide)
theorem tb_dg_last (n : Nat) : tb_dg n (tb_lv n - 1) = n % 8 := by
  unfold tb_dg
  rw [Nat.sub_self, Nat.pow_zero, Nat.div_one]
theorem tb_d_neg : ∀ d, d < 8 → (nI d - 1 < 0 ↔ d = 0) := by decide +kernel
theorem tb_d_gt4 : ∀ d, d < 8 → (4 < nI d - 1 ↔ 5 < d) := by decide +kernel
theorem tb_d_6 : ∀ d, d < 8 → (nI d - 1 = 6 ↔ d = 7) := by decide +kernel
theorem tb_d_5 : ∀ d, d < 8 → (nI d - 1 = 5 ↔ d = 6) := by decide +kernel
theorem tb_d_le4 : ∀ d, d < 8 → (nI d - 1 ≤ 4 ↔ d ≤ 5) := by decide +kernel
theorem tb_d_0le : ∀ d, d < 8 → (0 ≤ nI d - 1 ↔ d ≠ 0) := by decide +kernel
theorem tb_d_eq : ∀ d, d < 8 → ∀ e, e < 8 → (nI d - 1 = nI e - 1 ↔ d = e) := by decide +kernel
theorem tb_all_0 (g : Nat → Bool) (i : Nat) : tb_all g 0 i = true := rfl
theorem tb_all_f {g : Nat → Bool} {k i : Nat} (h : g i = false) : tb_all g (k + 1) i = false := by
  show (g i && tb_all g k (i + 1)) = false
  rw [h]
  rfl
theorem tb_all_t {g : Nat → Bool} {k i : Nat} (h : g i = true) : tb_all g (k + 1) i = tb_all g k (i + 1) := by
  show (g i && tb_all g k (i + 1)) = _
  rw [h]
  rfl
def tb_sh : Nat → Nat → (Nat → Int32) → (Nat → Int32)
  | 0, _, a => a
  | k + 1, i, a => tb_sh k (i + 1) (upd a i (a (i + 1)))
theorem tb_sh_at : ∀ k i a j, tb_sh k i a j = if i ≤ j ∧ j < i + k then a (j + 1) else a j := by
  intro k
  induction k with
  | zero =>
    intro i a j
    rw [if_neg (by omega)]
    rfl
  | succ k ih =>
    intro i a j
    show tb_sh k (i + 1) (upd a i (a (i + 1))) j = _
    rw [ih]
    by_cases h1 : i + 1 ≤ j ∧ j < i + 1 + k
    · rw [if_pos h1, if_pos (by omega), pk_un (by omega)]
    · rw [if_neg h1]
      by_cases h2 : j = i
      · subst h2
        rw [pk_us, if_pos (by omega)]
      · rw [pk_un h2, if_neg (by omega)]
def tb_su : Nat → Nat → (Nat → Int32) → (Nat → Int32)
  | 0, _, a => a
  | k + 1, p, a => tb_su k p (upd a (p + k + 1) (a (p + k)))
theorem tb_su_at : ∀ k p a j, tb_su k p a j = if p < j ∧ j ≤ p + k then a (j - 1) else a j := by
  intro k
  induction k with
  | zero =>
    intro p a j
    rw [if_neg (by omega)]
    rfl
  | succ k ih =>
    intro p a j
    show tb_su k p (upd a (p + k + 1) (a (p + k))) j = _
    rw [ih]
    by_cases h1 : p < j ∧ j ≤ p + k
    · rw [if_pos h1, if_pos (by omega), pk_un (by omega)]
    · rw [if_neg h1]
      by_cases h2 : j = p + k + 1
      · subst h2
        rw [pk_us, if_pos (by omega)]
        rfl
      · rw [pk_un h2, if_neg (by omega)]
def tb_bg (gr : Nat → Int32) (m : Nat → Bool) : Nat → Nat → Int32 → Int32
  | 0, _, b => b
  | k + 1, i, b => tb_bg gr m k (i + 1) (if b < gr i ∧ m i = true then gr i else b)
def tb_BR (x y : Int32) : Prop := (x = -1 ∧ y = -4) ∨ (x = y ∧ ∃ g, g ≤ 2 ∧ x = nI g)
theorem tb_m1lt : ∀ g, g ≤ 2 → ((-1 : Int32) < nI g) ∧ ((-4 : Int32) < nI g) ∧ nI g ≠ -1 ∧ nI g ≠ -4 := by
  intro g hg
  match g, hg with
  | 0, _ => decide
  | 1, _ => decide
  | 2, _ => decide
theorem tb_bg_rel (gr : Nat → Int32) (m : Nat → Bool) : ∀ k i x y, (∀ j, i ≤ j → j < i + k → ∃ g, g ≤ 2 ∧ gr j = nI g) → tb_BR x y → tb_BR (tb_bg gr m k i x) (tb_bg gr m k i y) := by
  intro k
  induction k with
  | zero => exact fun i x y _ h => h
  | succ k ih =>
    intro i x y hg h
    show tb_BR (tb_bg gr m k (i + 1) _) (tb_bg gr m k (i + 1) _)
    refine ih (i + 1) _ _ (fun j h1 h2 => hg j (by omega) (by omega)) ?_
    obtain ⟨g, hg2, eg⟩ := hg i (by omega) (by omega)
    rcases h with ⟨hx, hy⟩ | ⟨hx, hy⟩
    · subst hx hy
      by_cases hm : m i = true
      · rw [if_pos ⟨by rw [eg]; exact (tb_m1lt g hg2).1, hm⟩, if_pos ⟨by rw [eg]; exact (tb_m1lt g hg2).2.1, hm⟩]
        exact Or.inr ⟨rfl, g, hg2, eg⟩
      · rw [if_neg (fun z => hm z.2), if_neg (fun z => hm z.2)]
        exact Or.inl ⟨rfl, rfl⟩
    · subst hx
      by_cases hm : x < gr i ∧ m i = true
      · rw [if_pos hm]
        exact Or.inr ⟨rfl, g, hg2, eg⟩
      · rw [if_neg hm]
        exact Or.inr ⟨rfl, hy⟩
def tb_fd (a : Nat → Int32) (f : Int32) : Nat → Nat → Option Nat
  | 0, _ => none
  | k + 1, i => if a i = f then some i else tb_fd a f k (i + 1)
theorem tb_fd_some {a : Nat → Int32} {f : Int32} : ∀ {k i q}, tb_fd a f k i = some q → i ≤ q ∧ q < i + k ∧ a q = f := by
  intro k
  induction k with
  | zero => intro i q h; cases h
  | succ k ih =>
    intro i q h
    by_cases e : a i = f
    · rw [tb_fd, if_pos e] at h
      cases h
      exact ⟨by omega, by omega, e⟩
    · rw [tb_fd, if_neg e] at h
      obtain ⟨h1, h2, h3⟩ := ih h
      exact ⟨by omega, by omega, h3⟩
theorem tb_fd_none {a : Nat → Int32} {f : Int32} : ∀ {k i}, tb_fd a f k i = none → ∀ j, i ≤ j → j < i + k → a j ≠ f := by
  intro k
  induction k with
  | zero => intro i h j h1 h2; omega
  | succ k ih =>
    intro i h j h1 h2
    by_cases e : a i = f
    · rw [tb_fd, if_pos e] at h
      cases h
    · rw [tb_fd, if_neg e] at h
      by_cases ej : j = i
      · subst ej
        exact e
      · exact ih h j (by omega) (by omega)
def tb_pl (a : Nat → Int32) (t : Int32) : Nat → Nat → Nat
  | 0, i => i
  | k + 1, i => if a i < t then tb_pl a t k (i + 1) else i
theorem tb_pl_at {a : Nat → Int32} {t : Int32} : ∀ k i, i ≤ tb_pl a t k i ∧ tb_pl a t k i ≤ i + k ∧ (∀ j, i ≤ j → j < tb_pl a t k i → a j < t) ∧ (tb_pl a t k i < i + k → ¬ a (tb_pl a t k i) < t) := by
  intro k
  induction k with
  | zero => exact fun i => ⟨Nat.le_refl i, Nat.le_refl i, fun j h1 h2 => absurd h2 (by show ¬ j < i; omega), fun h => absurd h (by show ¬ i < i; omega)⟩
  | succ k ih =>
    intro i
    by_cases e : a i < t
    · rw [tb_pl, if_pos e]
      obtain ⟨h1, h2, h3, h4⟩ := ih (i + 1)
      refine ⟨by omega, by omega, fun j h5 h6 => ?_, fun h => h4 (by omega)⟩
      by_cases ej : j = i
      · subst ej
        exact e
      · exact h3 j (by omega) h6
    · rw [tb_pl, if_neg e]
      exact ⟨Nat.le_refl i, by omega, fun j h1 h2 => absurd h2 (by omega), fun _ => e⟩
end
section
def tb_IS (sf sg sc : Nat → Int32) : Prop := ∀ c, c < 4 → ∃ m, m ≤ 5 ∧ sc c = nI m ∧ ∀ i, i < m → (∃ n, tb_ok n ∧ sf (5 * c + i) = nI n) ∧ (∃ g, g ≤ 2 ∧ sg (5 * c + i) = nI g)
def tb_IQ (qc : Nat → Int32) : Prop := ∀ c, c < 4 → ∃ m, m ≤ 12 ∧ qc c = nI m
def tb_IK (kt : Nat → Int32) (kc : Int32) : Prop := ∃ m, m ≤ 8 ∧ kc = nI m ∧ (∀ i, i < m → ∃ n, tb_ok n ∧ kt i = nI n) ∧ (∀ i j, i < j → j < m → kt i < kt j)
theorem tb_IS_0 : tb_IS (fun _ => 0) (fun _ => 0) (fun _ => 0) := fun c _ => ⟨0, by omega, rfl, fun i h => absurd h (Nat.not_lt_zero i)⟩
theorem tb_IQ_0 : tb_IQ (fun _ => 0) := fun c _ => ⟨0, by omega, rfl⟩
theorem tb_IK_0 : tb_IK (fun _ => 0) 0 := ⟨0, by omega, rfl, fun i h => absurd h (Nat.not_lt_zero i), fun i j _ h => absurd h (Nat.not_lt_zero j)⟩
theorem tb_IQ_u {qc : Nat → Int32} {c m : Nat} (h : tb_IQ qc) (hm : m ≤ 12) : tb_IQ (upd qc c (nI m)) := by
  intro d hd
  by_cases e : d = c
  · subst e
    exact ⟨m, hm, pk_us⟩
  · rw [pk_un e]
    exact h d hd
theorem tb_IS_g {sf sg sc : Nat → Int32} {q g : Nat} (h : tb_IS sf sg sc) (hg : g ≤ 2) : tb_IS sf (upd sg q (nI g)) sc := by
  intro c hc
  obtain ⟨m, hm, e, hi⟩ := h c hc
  refine ⟨m, hm, e, fun i h1 => ⟨(hi i h1).1, ?_⟩⟩
  by_cases ej : 5 * c + i = q
  · rw [ej, pk_us]
    exact ⟨g, hg, rfl⟩
  · rw [pk_un ej]
    exact (hi i h1).2
theorem tb_IS_f {sf sg sc : Nat → Int32} {q n : Nat} (h : tb_IS sf sg sc) (hn : tb_ok n) : tb_IS (upd sf q (nI n)) sg sc := by
  intro c hc
  obtain ⟨m, hm, e, hi⟩ := h c hc
  refine ⟨m, hm, e, fun i h1 => ⟨?_, (hi i h1).2⟩⟩
  by_cases ej : 5 * c + i = q
  · rw [ej, pk_us]
    exact ⟨n, hn, rfl⟩
  · rw [pk_un ej]
    exact (hi i h1).1
theorem tb_IS_new {sf sg sc : Nat → Int32} {c m n g : Nat} (h : tb_IS sf sg sc) (hc : c < 4) (em : sc c = nI m) (hm : m < 5) (hn : tb_ok n) (hg : g ≤ 2) :
    tb_IS (upd sf (5 * c + m) (nI n)) (upd sg (5 * c + m) (nI g)) (upd sc c (nI (m + 1))) := by
  intro d hd
  by_cases e : d = c
  · subst e
    refine ⟨m + 1, by omega, pk_us, fun i h1 => ?_⟩
    by_cases ei : i = m
    · subst ei
      rw [pk_us, pk_us]
      exact ⟨⟨n, hn, rfl⟩, ⟨g, hg, rfl⟩⟩
    · rw [pk_un (by omega), pk_un (by omega)]
      obtain ⟨m', hm', e', hi⟩ := h d hd
      have : m' = m := (nI_eq (by omega) (by omega)).mp (e'.symm.trans em)
      exact hi i (by omega)
  · obtain ⟨m', hm', e', hi⟩ := h d hd
    refine ⟨m', hm', by rw [pk_un e]; exact e', fun i h1 => ?_⟩
    rw [pk_un (by omega), pk_un (by omega)]
    exact hi i h1
theorem tb_IS_rem {sf sg sc : Nat → Int32} {c m q : Nat} (h : tb_IS sf sg sc) (hc : c < 4) (em : sc c = nI m) (hm : m ≤ 5) (h1 : 5 * c ≤ q) (h2 : q < 5 * c + m) :
    tb_IS (tb_sh (5 * c + m - 1 - q) q sf) (tb_sh (5 * c + m - 1 - q) q sg) (upd sc c (nI (m - 1))) := by
  intro d hd
  obtain ⟨m', hm', e', hi⟩ := h d hd
  by_cases e : d = c
  · subst e
    have : m' = m := (nI_eq (by omega) (by omega)).mp (e'.symm.trans em)
    subst this
    refine ⟨m' - 1, by omega, pk_us, fun i h3 => ?_⟩
    rw [tb_sh_at, tb_sh_at]
    by_cases z : q ≤ 5 * d + i ∧ 5 * d + i < q + (5 * d + m' - 1 - q)
    · rw [if_pos z, if_pos z]
      exact hi (i + 1) (by omega)
    · rw [if_neg z, if_neg z]
      exact hi i (by omega)
  · refine ⟨m', hm', by rw [pk_un e]; exact e', fun i h3 => ?_⟩
    rw [tb_sh_at, tb_sh_at, if_neg (by omega), if_neg (by omega)]
    exact hi i h3
theorem tb_IK_rem {kt : Nat → Int32} {m q : Nat} (hm : m ≤ 8) (hq : q < m) (hn : ∀ i, i < m → ∃ n, tb_ok n ∧ kt i = nI n) (hs : ∀ i j, i < j → j < m → kt i < kt j) :
    tb_IK (tb_sh (m - 1 - q) q kt) (nI (m - 1)) := by
  refine ⟨m - 1, by omega, rfl, fun i hi => ?_, fun i j hij hj => ?_⟩
  · rw [tb_sh_at]
    by_cases z : q ≤ i ∧ i < q + (m - 1 - q)
    · rw [if_pos z]
      exact hn (i + 1) (by omega)
    · rw [if_neg z]
      exact hn i (by omega)
  · rw [tb_sh_at, tb_sh_at]
    by_cases z : q ≤ i ∧ i < q + (m - 1 - q)
    · rw [if_pos z, if_pos (by omega)]
      exact hs _ _ (by omega) (by omega)
    · rw [if_neg z]
      by_cases z2 : q ≤ j ∧ j < q + (m - 1 - q)
      · rw [if_pos z2]
        exact hs _ _ (by omega) (by omega)
      · rw [if_neg z2]
        exact hs _ _ (by omega) (by omega)
theorem tb_IK_ins {kt : Nat → Int32} {m q n : Nat} (hm : m < 8) (hq : q ≤ m) (hn : ∀ i, i < m → ∃ n, tb_ok n ∧ kt i = nI n) (hs : ∀ i j, i < j → j < m → kt i < kt j)
    (ho : tb_ok n) (h1 : ∀ j, j < q → kt j < nI n) (h2 : ∀ j, q ≤ j → j < m → nI n < kt j) :
    tb_IK (upd (tb_su (m - q) q kt) q (nI n)) (nI (m + 1)) := by
  have hlo : ∀ j, j < q → upd (tb_su (m - q) q kt) q (nI n) j = kt j := fun j hj => by
    rw [pk_un (by omega), tb_su_at, if_neg (by omega)]
  have hhi : ∀ j, q < j → j ≤ m → upd (tb_su (m - q) q kt) q (nI n) j = kt (j - 1) := fun j hj hj2 => by
    rw [pk_un (by omega), tb_su_at, if_pos (by omega)]
  have hat : upd (tb_su (m - q) q kt) q (nI n) q = nI n := pk_us
  refine ⟨m + 1, by omega, rfl, fun i hi => ?_, fun i j hij hj => ?_⟩
  · rcases Nat.lt_trichotomy i q with z | z | z
    · rw [hlo i z]
      exact hn i (by omega)
    · rw [z, hat]
      exact ⟨n, ho, rfl⟩
    · rw [hhi i z (by omega)]
      exact hn (i - 1) (by omega)
  · rcases Nat.lt_trichotomy i q with z | z | z
    · rw [hlo i z]
      rcases Nat.lt_trichotomy j q with y | y | y
      · rw [hlo j y]
        exact hs i j hij (by omega)
      · rw [y, hat]
        exact h1 i z
      · rw [hhi j y (by omega)]
        exact hs i (j - 1) (by omega) (by omega)
    · rw [z, hat, hhi j (by omega) (by omega)]
      exact h2 (j - 1) (by omega) (by omega)
    · rw [hhi i z (by omega), hhi j (by omega) (by omega)]
      exact hs _ _ (by omega) (by omega)
theorem tb_fp_some {kt : Nat → Int32} {m q : Nat} {t : Int32} (hs : ∀ i j, i < j → j < m → kt i < kt j) (h : tb_fd kt t m 0 = some q) : tb_pl kt t m 0 = q ∧ q < m ∧ kt q = t := by
  obtain ⟨_, hq, e⟩ := tb_fd_some h
  obtain ⟨_, h2, h3, h4⟩ := tb_pl_at (a := kt) (t := t) m 0
  have hq' : q < m := by omega
  refine ⟨?_, hq', e⟩
  rcases Nat.lt_trichotomy (tb_pl kt t m 0) q with z | z | z
  · have y := hs _ _ z hq'
    rw [e] at y
    exact absurd y (h4 (by omega))
  · exact z
  · have y := h3 q (by omega) z
    rw [e] at y
    exact absurd y Int32.lt_irrefl
theorem tb_fp_none {kt : Nat → Int32} {m : Nat} {t : Int32} (hs : ∀ i j, i < j → j < m → kt i < kt j) (h : tb_fd kt t m 0 = none) :
    tb_pl kt t m 0 ≤ m ∧ (∀ j, j < tb_pl kt t m 0 → kt j < t) ∧ (∀ j, tb_pl kt t m 0 ≤ j → j < m → t < kt j) := by
  obtain ⟨_, h2, h3, h4⟩ := tb_pl_at (a := kt) (t := t) m 0
  have hne := tb_fd_none h
  refine ⟨by omega, fun j hj => h3 j (by omega) hj, fun j h5 h6 => ?_⟩
  have hp : tb_pl kt t m 0 < m := by omega
  have hp1 : ¬ kt (tb_pl kt t m 0) < t := h4 (by omega)
  have hj1 : ¬ kt j < t := by
    by_cases ej : tb_pl kt t m 0 = j
    · rw [← ej]
      exact hp1
    · intro z
      exact hp1 (Int32.lt_trans (hs _ _ (by omega) h6) z)
  rcases Int32.lt_or_eq_of_le (Int32.not_lt.mp hj1) with y | y
  · exact y
  · exact absurd y.symm (hne j (by omega) (by omega))
def tb_kc (m : Nat → Bool) : Nat → Nat → Int32 → Int32
  | 0, _, x => x
  | k + 1, i, x => tb_kc m k (i + 1) (if m i = true then x + 1 else x)
abbrev tb_Q : Type := (Nat → Int32) × (Nat → Int32) × (Nat → Int32) × (Nat → Int32) × (Nat → Int32)
def tb_dr (on : Nat → Int32) (c : Nat) (g : Int32) (s : tb_Q) : Bool := if on c = 0 ∧ g = 0 then false else if s.2.2.2.1 c = 12 then false else true
def tb_dv (on : Nat → Int32) (c : Nat) (t v g : Int32) (s : tb_Q) : tb_Q :=
  if on c = 0 ∧ g = 0 then s else if s.2.2.2.1 c = 12 then (s.1, s.2.1, s.2.2.1, s.2.2.2.1, upd s.2.2.2.2 c (s.2.2.2.2 c + 1))
  else (upd s.1 (12 * c + (s.2.2.2.1 c).toNatClampNeg) t, upd s.2.1 (12 * c + (s.2.2.2.1 c).toNatClampNeg) v, upd s.2.2.1 (12 * c + (s.2.2.2.1 c).toNatClampNeg) g, upd s.2.2.2.1 c (s.2.2.2.1 c + 1), s.2.2.2.2)
theorem tb_dv_q {on : Nat → Int32} {c : Nat} {t v g : Int32} {s : tb_Q} (hc : c < 4) (h : tb_IQ s.2.2.2.1) : tb_IQ (tb_dv on c t v g s).2.2.2.1 := by
  unfold tb_dv
  by_cases z : on c = 0 ∧ g = 0
  · rw [if_pos z]
    exact h
  · rw [if_neg z]
    by_cases y : s.2.2.2.1 c = 12
    · rw [if_pos y]
      exact h
    · rw [if_neg y]
      obtain ⟨m, hm, e⟩ := h c hc
      have hm2 : m ≠ 12 := fun w => y (by rw [e, w]; rfl)
      show tb_IQ (upd s.2.2.2.1 c (s.2.2.2.1 c + 1))
      rw [e, nI_1]
      exact tb_IQ_u h (by omega)
def tb_sk (on kt kv : Nat → Int32) (m : Nat → Bool) (c : Nat) (g : Int32) : Nat → Nat → Int32 → tb_Q → Int32 × tb_Q
  | 0, _, n, s => (n, s)
  | k + 1, i, n, s => if m i = true then tb_sk on kt kv m c g k (i + 1) (n + 1) (tb_dv on c (kt i) (kv i) g s) else tb_sk on kt kv m c g k (i + 1) n s
theorem tb_sk_q {on kt kv : Nat → Int32} {m : Nat → Bool} {c : Nat} {g : Int32} (hc : c < 4) : ∀ k i n s, tb_IQ s.2.2.2.1 → tb_IQ (tb_sk on kt kv m c g k i n s).2.2.2.2.1 := by
  intro k
  induction k with
  | zero => exact fun i n s h => h
  | succ k ih =>
    intro i n s h
    rw [tb_sk]
    by_cases z : m i = true
    · rw [if_pos z]
      exact ih _ _ _ (tb_dv_q hc h)
    · rw [if_neg z]
      exact ih _ _ _ h
def tb_mn (a b : Int32) : Int32 := if b ≤ a then b else a
def tb_pb (on bx : Nat → Int32) (t v g : Int32) : Nat → Nat → Int32 → tb_Q → Int32 × tb_Q
  | 0, _, n, s => (n, s)
  | k + 1, c, n, s => if bx c = -1 then tb_pb on bx t v g k (c + 1) n s else tb_pb on bx t v g k (c + 1) (if tb_dr on c (tb_mn (bx c) g) s = true then n + 1 else n) (tb_dv on c t v (tb_mn (bx c) g) s)
theorem tb_pb_q {on bx : Nat → Int32} {t v g : Int32} : ∀ k c n s, c + k = 4 → tb_IQ s.2.2.2.1 → tb_IQ (tb_pb on bx t v g k c n s).2.2.2.2.1 := by
  intro k
  induction k with
  | zero => exact fun c n s _ h => h
  | succ k ih =>
    intro c n s hc h
    rw [tb_pb]
    by_cases z : bx c = -1
    · rw [if_pos z]
      exact ih _ _ _ (by omega) h
    · rw [if_neg z]
      exact ih _ _ _ (by omega) (tb_dv_q (by omega) h)
def tb_rc (bx : Nat → Int32) : Nat → Nat → Int32 → Int32
  | 0, _, x => x
  | k + 1, c, x => tb_rc bx k (c + 1) (if bx c = -1 then x else x ||| ((1 : Int32) <<< (nI c &&& 31)))
def tb_bx (sf sg sc : Nat → Int32) (c : Nat) (t : Int32) : Int32 := tb_bg sg (fun i => tb_Ci (sf i) t) (sc c).toNatClampNeg (5 * c) (-1)
def tb_by (sf sg sc : Nat → Int32) (c : Nat) (t : Int32) : Int32 := tb_bg sg (fun i => tb_Ci (sf i) t) (sc c).toNatClampNeg (5 * c) (-4)
theorem tb_bxy {sf sg sc : Nat → Int32} {c : Nat} (t : Int32) (h : tb_IS sf sg sc) (hc : c < 4) : tb_BR (tb_bx sf sg sc c t) (tb_by sf sg sc c t) := by
  obtain ⟨m, hm, e, hi⟩ := h c hc
  unfold tb_bx tb_by
  rw [e, nI_clamp (by omega)]
  refine tb_bg_rel _ _ _ _ _ _ (fun j h1 h2 => ?_) (Or.inl ⟨rfl, rfl⟩)
  obtain ⟨i, rfl⟩ : ∃ i, j = 5 * c + i := ⟨j - 5 * c, by omega⟩
  exact (hi i (by omega)).2
theorem tb_bxy_n {x y : Int32} (h : tb_BR x y) : x = -1 ↔ y = -4 := by
  rcases h with ⟨a, b⟩ | ⟨a, g, hg, e⟩
  · exact ⟨fun _ => b, fun _ => a⟩
  · subst a
    rw [e]
    exact ⟨fun z => absurd z (tb_m1lt g hg).2.2.1, fun z => absurd z (tb_m1lt g hg).2.2.2⟩
theorem tb_bxy_e {x y : Int32} (h : tb_BR x y) (n : ¬ x = -1) : y = x := by
  rcases h with ⟨a, b⟩ | ⟨a, _⟩
  · exact absurd a n
  · exact a.symm
theorem tb_b_t {b : Bool} (h : b = true) : tb_b b = 1 := by rw [h]; rfl
theorem tb_b_f {b : Bool} (h : b = false) : tb_b b = 0 := by rw [h]; rfl
theorem tb_b_0 (b : Bool) : tb_b b = 0 ↔ b = false := by cases b <;> decide
theorem tb_b_n (b : Bool) : narrow .boolean (.int (tb_b b)) = .int (tb_b b) := by cases b <;> rfl
def tb_wd (sf sg sc : Nat → Int32) (c t : Nat) : Bool := tb_T (nI t) && decide (tb_bx sf sg sc c (nI t) ≠ -1)
theorem tb_kc_f {m : Nat → Bool} (h : ∀ i, m i = false) : ∀ k i x, tb_kc m k i x = x := by
  intro k
  induction k with
  | zero => exact fun i x => rfl
  | succ k ih =>
    intro i x
    rw [tb_kc, ih, h i]
    rfl
theorem tb_wd_0 {sf sg sc : Nat → Int32} {c : Nat} (h : sc c = 0) (t : Nat) : tb_wd sf sg sc c t = false := by
  unfold tb_wd tb_bx
  rw [h, show (0 : Int32).toNatClampNeg = 0 from by decide]
  show (tb_T (nI t) && decide ((-1 : Int32) ≠ -1)) = false
  rw [show decide ((-1 : Int32) ≠ -1) = false from by decide, Bool.and_false]
end
section
theorem tb_lm1 (n : Nat) : nI (tb_lv n) - 1 = nI (tb_lv n - 1) := pk_sub (b := 1) (tb_lv_1 n).1
theorem tx_levelCount {post : Int32 → Prop} {n : Nat} (h : tb_ok n) (hp : post (nI (tb_lv n))) : wpX_levelCount post (nI n) := by
  have hn := h.2
  have e4 : 512 ≤ n → tb_lv n = 4 := fun z => by
    unfold tb_lv
    rw [if_neg (by omega), if_neg (by omega), if_neg (by omega)]
  have e3 : 64 ≤ n → n < 512 → tb_lv n = 3 := fun z y => by
    unfold tb_lv
    rw [if_neg (by omega), if_neg (by omega), if_pos y]
  have e2 : 8 ≤ n → n < 64 → tb_lv n = 2 := fun z y => by
    unfold tb_lv
    rw [if_neg (by omega), if_pos y]
  have e1 : n < 8 → tb_lv n = 1 := fun y => by
    unfold tb_lv
    rw [if_pos y]
  refine pk_le 8 n (fun a => pk_le 64 n (fun b => pk_le 512 n (fun c => ?_) (fun c => ?_)) (fun b => ?_)) (fun a => ?_)
  · rw [e4 c] at hp
    exact hp
  · rw [e3 b c] at hp
    exact hp
  · rw [e2 a b] at hp
    exact hp
  · rw [e1 a] at hp
    exact hp
theorem tx_digitAt {post : Int32 → Prop} {n p : Nat} (h : tb_ok n) (hp : p < tb_lv n) (q : post (nI (tb_dg n p))) : wpX_digitAt post (nI n) (nI (tb_lv n)) (nI p) := by
  unfold wpX_digitAt
  rw [tb_dgx h hp]
  exact q
theorem tx_isTopic_l {post : Int32 → Prop} {n : Nat} (h : tb_ok n) : ∀ k i, i + k = tb_lv n → post (tb_b (tb_all (tb_tp n) k i)) → wX_isTopic_21 post (nI n) (nI (tb_lv n)) (k + 1) (nI i) := by
  have hl := tb_lv_1 n
  intro k
  induction k with
  | zero => exact fun i hi hp => br_t (nI_le (by omega) (by omega)) hp
  | succ k ih =>
    intro i hi hp
    have hd := tb_dg_lt n i
    refine br_f (nI_ge (by omega) (by omega)) (tx_digitAt h (by omega) ?_)
    refine pk_eq (tb_dg n i) 0 (fun z => ?_) (fun z => pk_le (tb_dg n i) 5 (fun y => nm_r (nI_1 i) (ih (i + 1) (by omega) ?_)) (fun y => ?_))
    · rw [tb_all_f (g := tb_tp n) (i := i) (decide_eq_false (fun w => w.1 z))] at hp
      exact hp
    · rw [tb_all_t (g := tb_tp n) (i := i) (decide_eq_true ⟨z, y⟩)] at hp
      exact hp
    · rw [tb_all_f (g := tb_tp n) (i := i) (decide_eq_false (fun w => absurd w.2 (by omega)))] at hp
      exact hp
theorem tb_gt1 {x : Int32} (h : 4095 < x) : ¬ x < 1 := fun w => absurd (Int32.lt_trans h w) (by decide)
theorem tx_isTopic {post : Int32 → Prop} (x : Int32) (hp : post (tb_b (tb_T x))) : wpX_isTopic post x := by
  rcases tb_cs x with z | z | ⟨n, hn, rfl⟩
  · rw [tb_T_1 z] at hp
    exact br_t z hp
  · rw [tb_T_2 z] at hp
    exact br_f (tb_gt1 z) (br_f (Int32.not_le.mpr z) hp)
  · rw [tb_T_n hn] at hp
    refine br_f (tb_ok1 hn) (br_t (nI_le (b := 4095) (Nat.le_of_lt_succ hn.2) (by decide)) (tx_levelCount hn ⟨tb_lv n + 1, ?_⟩))
    exact tx_isTopic_l hn (tb_lv n) 0 (by omega) hp
theorem tx_isFilter_l {post : Int32 → Prop} {n : Nat} (h : tb_ok n) : ∀ k i, i + k = tb_lv n → post (tb_b (tb_all (tb_fp n) k i)) → wX_isFilter_21 post (nI n) (nI (tb_lv n)) (k + 1) (nI i) := by
  have hl := tb_lv_1 n
  intro k
  induction k with
  | zero => exact fun i hi hp => br_t (nI_le (by omega) (by omega)) hp
  | succ k ih =>
    intro i hi hp
    have hd := tb_dg_lt n i
    refine br_f (nI_ge (by omega) (by omega)) (tx_digitAt h (by omega) ?_)
    refine pk_eq (tb_dg n i) 0 (fun z => ?_) (fun z => pk_eq (tb_dg n i) 7 (fun y => pk_le (tb_lv n - 1) i (fun w => nm_r (nI_1 i) (ih (i + 1) (by omega) ?_)) (fun w => ?_) (tb_lm1 n)) (fun y => nm_r (nI_1 i) (ih (i + 1) (by omega) ?_)))
    · rw [tb_all_f (g := tb_fp n) (i := i) (decide_eq_false (fun w => w.1 z))] at hp
      exact hp
    · rw [tb_all_t (g := tb_fp n) (i := i) (decide_eq_true ⟨z, fun v => absurd v.2 (by omega)⟩)] at hp
      exact hp
    · rw [tb_all_f (g := tb_fp n) (i := i) (decide_eq_false (fun v => v.2 ⟨y, w⟩))] at hp
      exact hp
    · rw [tb_all_t (g := tb_fp n) (i := i) (decide_eq_true ⟨z, fun v => y v.1⟩)] at hp
      exact hp
theorem tx_isFilter {post : Int32 → Prop} (x : Int32) (hp : post (tb_b (tb_F x))) : wpX_isFilter post x := by
  rcases tb_cs x with z | z | ⟨n, hn, rfl⟩
  · rw [tb_F_1 z] at hp
    exact br_t z hp
  · rw [tb_F_2 z] at hp
    exact br_f (tb_gt1 z) (br_f (Int32.not_le.mpr z) hp)
  · rw [tb_F_n hn] at hp
    refine br_f (tb_ok1 hn) (br_t (nI_le (b := 4095) (Nat.le_of_lt_succ hn.2) (by decide)) (tx_levelCount hn ⟨tb_lv n + 1, ?_⟩))
    exact tx_isFilter_l hn (tb_lv n) 0 (by omega) hp
theorem tb_C_a {f t : Nat} (z : f % 8 = 7) (y : tb_lv t < tb_lv f - 1) : tb_C f t = false := by
  unfold tb_C tb_cw
  rw [if_pos z, if_pos (Or.inl y)]
theorem tb_C_b {f t : Nat} (z : f % 8 = 7) (y : tb_lv f - 1 ≤ tb_lv t) : tb_C f t = tb_all (tb_cp f t) (tb_lv f - 1) 0 := by
  unfold tb_C tb_cw
  rw [if_pos z, if_neg (by omega)]
theorem tb_C_c {f t : Nat} (z : ¬ f % 8 = 7) (y : tb_lv t ≠ tb_lv f) : tb_C f t = false := by
  unfold tb_C tb_cw
  rw [if_neg z, if_pos (by omega)]
theorem tb_C_d {f t : Nat} (z : ¬ f % 8 = 7) (y : tb_lv t = tb_lv f) : tb_C f t = tb_all (tb_cp f t) (tb_lv f) 0 := by
  unfold tb_C tb_cw
  rw [if_neg z, if_neg (by omega)]
theorem tx_covers_l {post : Int32 → Prop} {f t : Nat} (hf : tb_ok f) (ht : tb_ok t) {m : Nat} (h1 : m ≤ tb_lv f) (h2 : m ≤ tb_lv t) : ∀ k i, i + k = m → post (tb_b (tb_all (tb_cp f t) k i)) → wX_covers_62 post (nI f) (nI t) (nI (tb_lv f)) (nI (tb_lv t)) (nI m) (k + 1) (nI i) := by
  have hl := tb_lv_1 f
  intro k
  induction k with
  | zero => exact fun i hi hp => br_t (nI_le (by omega) (by omega)) hp
  | succ k ih =>
    intro i hi hp
    have hd := tb_dg_lt f i
    have hd2 := tb_dg_lt t i
    refine br_f (nI_ge (by omega) (by omega)) (tx_digitAt hf (by omega) ?_)
    refine pk_eq (tb_dg f i) 6 (fun z => nm_r (nI_1 i) (ih (i + 1) (by omega) ?_)) (fun z => tx_digitAt ht (by omega) ?_)
    · rw [tb_all_t (g := tb_cp f t) (i := i) (decide_eq_true (Or.inl z))] at hp
      exact hp
    · refine pk_eq (tb_dg f i) (tb_dg t i) (fun y => nm_r (nI_1 i) (ih (i + 1) (by omega) ?_)) (fun y => ?_)
      · rw [tb_all_t (g := tb_cp f t) (i := i) (decide_eq_true (Or.inr y))] at hp
        exact hp
      · rw [tb_all_f (g := tb_cp f t) (i := i) (decide_eq_false (fun v => v.elim z y))] at hp
        exact hp
theorem tx_covers {post : Int32 → Prop} {f t : Nat} (hf : tb_ok f) (ht : tb_ok t) (hp : post (tb_b (tb_C f t))) : wpX_covers post (nI f) (nI t) := by
  have hl := tb_lv_1 f
  have hl2 := tb_lv_1 t
  unfold wpX_covers
  refine tx_levelCount hf (tx_levelCount ht ?_)
  rw [tb_m8 hf]
  refine pk_eq (f % 8) 7 (fun z => br_f (by decide) ?_) (fun z => br_t rfl ?_)
  · rw [tb_lm1 f]
    refine pk_lt (tb_lv t) (tb_lv f - 1) (fun y => ?_) (fun y => br_f (by decide) ⟨tb_lv f - 1 + 1, ?_⟩)
    · rw [tb_C_a z y] at hp
      exact hp
    · rw [tb_C_b z y] at hp
      exact tx_covers_l hf ht (by omega) y (tb_lv f - 1) 0 (by omega) hp
  · refine pk_lt (tb_lv t) (tb_lv f) (fun y => ?_) (fun y => br_t rfl (pk_le (tb_lv t) (tb_lv f) (fun w => ⟨tb_lv f + 1, ?_⟩) (fun w => ?_)))
    · rw [tb_C_c z (by omega)] at hp
      exact hp
    · rw [tb_C_d z (by omega)] at hp
      exact tx_covers_l hf ht (by omega) y (tb_lv f) 0 (by omega) hp
    · rw [tb_C_c z (by omega)] at hp
      exact hp
theorem ty_levels_l {post : Int32 → Prop} {kc : Int32} {sf sg sc qt qv qg qc on lo kt kv : Nat → Int32} : ∀ k n c, n < 8 ^ k → n < 2 ^ 31 → post (nI (c + tb_cn k n)) → wY_levels_4 post kc sf sg sc qt qv qg qc lo on kt kv (k + 1) (nI c) (nI n) := by
  intro k
  induction k with
  | zero =>
    intro n c h1 h2 hp
    have e : n = 0 := by
      rw [Nat.pow_zero] at h1
      omega
    subst e
    exact br_t (nI_le (Nat.le_refl 0) (by decide)) hp
  | succ k ih =>
    intro n c h1 h2 hp
    by_cases e : n = 0
    · subst e
      rw [tb_cn_0] at hp
      exact br_t (nI_le (Nat.le_refl 0) (by decide)) hp
    · rw [tb_cn_s k e] at hp
      refine br_f (nI_nle (by omega) h2) (nm_r (nI_1 c) ⟨by decide, nm_r (pk_div (d := 8) h2 (by decide) (by decide)) (ih (n / 8) (c + 1) ?_ (by omega) ?_)⟩)
      · refine Nat.div_lt_of_lt_mul ?_
        rw [Nat.pow_succ, Nat.mul_comm] at h1
        exact h1
      · rw [Nat.add_assoc]
        exact hp
theorem ty_levels_n {post : Int32 → Prop} {kc : Int32} {sf sg sc qt qv qg qc on lo kt kv : Nat → Int32} {n : Nat} (h : n < 2 ^ 31) (hp : post (nI (tb_cn 11 n))) : wpY_levels post (kc, sf, sg, sc, qt, qv, qg, qc, lo, on, kt, kv) (nI n) :=
  Exists.intro 12 (ty_levels_l 11 n 0 (Nat.lt_trans h (by decide)) h (by rw [Nat.zero_add]; exact hp))
theorem ty_levels_0 {post : Int32 → Prop} {kc : Int32} {sf sg sc qt qv qg qc on lo kt kv : Nat → Int32} {x : Int32} (h : x < 1) (hp : post 0) : wpY_levels post (kc, sf, sg, sc, qt, qv, qg, qc, lo, on, kt, kv) x := by
  refine Exists.intro 1 (br_t ?_ hp)
  refine Int32.not_lt.mp fun z => ?_
  obtain ⟨j, hj, rfl⟩ := nI_of (x := x) (fun w => Int32.lt_irrefl (Int32.lt_trans w z))
  have h0 : 0 < j := (nI_ltI (a := 0) (by decide) hj).mp z
  have h1 : j < 1 := (nI_ltI (b := 1) hj (by decide)).mp h
  omega
theorem ty_level_l {post : Int32 → Prop} {kc : Int32} {sf sg sc qt qv qg qc on lo kt kv : Nat → Int32} {i : Nat} : ∀ d m, m < 2 ^ 31 → i + d < 2 ^ 31 → post (nI (m / 8 ^ d % 8) - 1) → wY_level_14 post (nI i) kc sf sg sc qt qv qg qc lo on kt kv (d + 1) (nI m) (nI (i + d)) := by
  intro d
  induction d with
  | zero =>
    intro m h1 h2 hp
    rw [Nat.pow_zero, Nat.div_one] at hp
    refine br_t (nI_le (Nat.le_refl _) h2) ⟨by decide, ?_⟩
    rw [show nI m - nI m / 8 * 8 = nI (m % 8) from pk_rem (d := 8) h1 (by decide) (by decide)]
    exact hp
  | succ d ih =>
    intro m h1 h2 hp
    refine br_f (nI_ge (by omega) h2) ⟨by decide, nm_r (pk_div (d := 8) h1 (by decide) (by decide)) (nm_r (pk_m1 (i + d)) (ih (m / 8) (by omega) (by omega) ?_))⟩
    rw [Nat.div_div_eq_div_mul, ← Nat.pow_succ']
    exact hp
theorem ty_level {post : Int32 → Prop} {kc : Int32} {sf sg sc qt qv qg qc on lo kt kv : Nat → Int32} {n i : Nat} (h : tb_ok n) (hi : i < tb_lv n) (hp : post (nI (tb_dg n i) - 1)) : wpY_level post (kc, sf, sg, sc, qt, qv, qg, qc, lo, on, kt, kv) (nI n) (nI i) := by
  have hl := tb_lv_1 n
  unfold wpY_level
  refine ty_levels_n (tb_okl h) ?_
  rw [tb_cn_lv h]
  refine nm_r (tb_lm1 n) ⟨tb_lv n - 1 - i + 1, ?_⟩
  have q := ty_level_l (post := post) (kc := kc) (sf := sf) (sg := sg) (sc := sc) (qt := qt) (qv := qv) (qg := qg) (qc := qc) (on := on) (lo := lo) (kt := kt) (kv := kv) (i := i) (tb_lv n - 1 - i) n (tb_okl h) (by omega) hp
  rw [show i + (tb_lv n - 1 - i) = tb_lv n - 1 by omega] at q
  exact q
theorem tb_cs2 {x : Int32} (h : 4095 < x) : ∃ n, 4096 ≤ n ∧ n < 2 ^ 31 ∧ x = nI n := by
  obtain ⟨j, hj, rfl⟩ := nI_of (x := x) (fun w => absurd (Int32.lt_trans h w) (by decide))
  exact ⟨j, (nI_ltI (a := 4095) (by decide) hj).mp h, hj, rfl⟩
theorem ty_isTopic_l {post : Int32 → Prop} {kc : Int32} {sf sg sc qt qv qg qc on lo kt kv : Nat → Int32} {n : Nat} (h : tb_ok n) : ∀ k i, i + k = tb_lv n → post (tb_b (tb_all (tb_tp n) k i)) → wY_isTopic_20 post (nI n) (nI (tb_lv n)) kc sf sg sc qt qv qg qc lo on kt kv (k + 1) (nI i) := by
  have hl := tb_lv_1 n
  intro k
  induction k with
  | zero => exact fun i hi hp => br_t (nI_le (by omega) (by omega)) hp
  | succ k ih =>
    intro i hi hp
    have hd := tb_dg_lt n i
    refine br_f (nI_ge (by omega) (by omega)) (ty_level h (by omega) ?_)
    by_cases z : tb_dg n i = 0
    · rw [tb_all_f (g := tb_tp n) (i := i) (decide_eq_false (fun w => w.1 z))] at hp
      exact br_t ((tb_d_neg _ hd).mpr z) hp
    · refine br_f (fun w => z ((tb_d_neg _ hd).mp w)) ?_
      by_cases y : tb_dg n i ≤ 5
      · rw [tb_all_t (g := tb_tp n) (i := i) (decide_eq_true ⟨z, y⟩)] at hp
        exact br_t ((tb_d_le4 _ hd).mpr y) (nm_r (nI_1 i) (ih (i + 1) (by omega) hp))
      · rw [tb_all_f (g := tb_tp n) (i := i) (decide_eq_false (fun w => y w.2))] at hp
        exact br_f (fun w => y ((tb_d_le4 _ hd).mp w)) hp
theorem ty_isTopic {post : Int32 → Prop} {kc : Int32} {sf sg sc qt qv qg qc on lo kt kv : Nat → Int32} (x : Int32) (hp : post (tb_b (tb_T x))) : wpY_isTopic post (kc, sf, sg, sc, qt, qv, qg, qc, lo, on, kt, kv) x := by
  unfold wpY_isTopic
  rcases tb_cs x with z | z | ⟨n, hn, rfl⟩
  · rw [tb_T_1 z] at hp
    exact ty_levels_0 z (br_t z hp)
  · rw [tb_T_2 z] at hp
    obtain ⟨n, h1, h2, rfl⟩ := tb_cs2 z
    have h3 := tb_cn_big h1
    have h4 := tb_cn_le 11 n
    exact ty_levels_n h2 (br_f (tb_gt1 z) (br_f (nI_ge (a := 4) h3 (by omega)) hp))
  · rw [tb_T_n hn] at hp
    have hl := tb_lv_1 n
    refine ty_levels_n (tb_okl hn) ?_
    rw [tb_cn_lv hn]
    exact br_f (tb_ok1 hn) (br_t (nI_le (b := 4) hl.2 (by decide)) ⟨tb_lv n + 1, ty_isTopic_l hn (tb_lv n) 0 (by omega) hp⟩)
theorem ty_isFilter_l {post : Int32 → Prop} {kc : Int32} {sf sg sc qt qv qg qc on lo kt kv : Nat → Int32} {n : Nat} (h : tb_ok n) : ∀ k i, i + k = tb_lv n → post (tb_b (tb_all (tb_fp n) k i)) → wY_isFilter_20 post (nI n) (nI (tb_lv n)) kc sf sg sc qt qv qg qc lo on kt kv (k + 1) (nI i) := by
  have hl := tb_lv_1 n
  intro k
  induction k with
  | zero => exact fun i hi hp => br_t (nI_le (by omega) (by omega)) hp
  | succ k ih =>
    intro i hi hp
    have hd := tb_dg_lt n i
    refine br_f (nI_ge (by omega) (by omega)) (ty_level h (by omega) ?_)
    by_cases z : tb_dg n i = 0
    · rw [tb_all_f (g := tb_fp n) (i := i) (decide_eq_false (fun w => w.1 z))] at hp
      exact br_t ((tb_d_neg _ hd).mpr z) hp
    · refine br_f (fun w => z ((tb_d_neg _ hd).mp w)) ?_
      by_cases y : tb_dg n i = 7
      · refine br_t ((tb_d_6 _ hd).mpr y) (pk_le (tb_lv n - 1) i (fun w => nm_r (nI_1 i) (ih (i + 1) (by omega) ?_)) (fun w => ?_) (tb_lm1 n))
        · rw [tb_all_t (g := tb_fp n) (i := i) (decide_eq_true ⟨z, fun v => absurd v.2 (by omega)⟩)] at hp
          exact hp
        · rw [tb_all_f (g := tb_fp n) (i := i) (decide_eq_false (fun v => v.2 ⟨y, w⟩))] at hp
          exact hp
      · rw [tb_all_t (g := tb_fp n) (i := i) (decide_eq_true ⟨z, fun v => y v.1⟩)] at hp
        exact br_f (fun w => y ((tb_d_6 _ hd).mp w)) (nm_r (nI_1 i) (ih (i + 1) (by omega) hp))
theorem ty_isFilter {post : Int32 → Prop} {kc : Int32} {sf sg sc qt qv qg qc on lo kt kv : Nat → Int32} (x : Int32) (hp : post (tb_b (tb_F x))) : wpY_isFilter post (kc, sf, sg, sc, qt, qv, qg, qc, lo, on, kt, kv) x := by
  unfold wpY_isFilter
  rcases tb_cs x with z | z | ⟨n, hn, rfl⟩
  · rw [tb_F_1 z] at hp
    exact ty_levels_0 z (br_t z hp)
  · rw [tb_F_2 z] at hp
    obtain ⟨n, h1, h2, rfl⟩ := tb_cs2 z
    have h3 := tb_cn_big h1
    have h4 := tb_cn_le 11 n
    exact ty_levels_n h2 (br_f (tb_gt1 z) (br_f (nI_ge (a := 4) h3 (by omega)) hp))
  · rw [tb_F_n hn] at hp
    have hl := tb_lv_1 n
    refine ty_levels_n (tb_okl hn) ?_
    rw [tb_cn_lv hn]
    exact br_f (tb_ok1 hn) (br_t (nI_le (b := 4) hl.2 (by decide)) ⟨tb_lv n + 1, ty_isFilter_l hn (tb_lv n) 0 (by omega) hp⟩)
theorem ty_fits_l {post : Int32 → Prop} {kc : Int32} {sf sg sc qt qv qg qc on lo kt kv : Nat → Int32} {f t : Nat} (hf : tb_ok f) (ht : tb_ok t) {m : Nat} (h1 : m ≤ tb_lv f) (h2 : m ≤ tb_lv t) : ∀ k i, i + k = m → post (tb_b (tb_all (tb_cp f t) k i)) → wY_fits_74 post (nI f) (nI t) (nI m) kc sf sg sc qt qv qg qc lo on kt kv (k + 1) (nI i) := by
  have hl := tb_lv_1 f
  intro k
  induction k with
  | zero => exact fun i hi hp => br_t (nI_le (by omega) (by omega)) hp
  | succ k ih =>
    intro i hi hp
    have hd := tb_dg_lt f i
    have hd2 := tb_dg_lt t i
    refine br_f (nI_ge (by omega) (by omega)) (ty_level hf (by omega) ?_)
    by_cases z : tb_dg f i = 6
    · rw [tb_all_t (g := tb_cp f t) (i := i) (decide_eq_true (Or.inl z))] at hp
      exact br_t ((tb_d_5 _ hd).mpr z) (nm_r (nI_1 i) (ih (i + 1) (by omega) hp))
    · refine br_f (fun w => z ((tb_d_5 _ hd).mp w)) (ty_level ht (by omega) ?_)
      by_cases y : tb_dg f i = tb_dg t i
      · rw [tb_all_t (g := tb_cp f t) (i := i) (decide_eq_true (Or.inr y))] at hp
        exact br_t ((tb_d_eq _ hd _ hd2).mpr y) (nm_r (nI_1 i) (ih (i + 1) (by omega) hp))
      · rw [tb_all_f (g := tb_cp f t) (i := i) (decide_eq_false (fun v => v.elim z y))] at hp
        exact br_f (fun w => y ((tb_d_eq _ hd _ hd2).mp w)) hp
theorem ty_fits {post : Int32 → Prop} {kc : Int32} {sf sg sc qt qv qg qc on lo kt kv : Nat → Int32} {f t : Nat} (hf : tb_ok f) (ht : tb_ok t) (hp : post (tb_b (tb_C f t))) : wpY_fits post (kc, sf, sg, sc, qt, qv, qg, qc, lo, on, kt, kv) (nI f) (nI t) := by
  have hl := tb_lv_1 f
  have hl2 := tb_lv_1 t
  unfold wpY_fits
  refine ty_levels_n (tb_okl hf) ?_
  rw [tb_cn_lv hf]
  refine ty_levels_n (tb_okl ht) ?_
  rw [tb_cn_lv ht, tb_lm1 f]
  refine ty_level hf (by omega) ?_
  rw [tb_dg_last f]
  have hd : f % 8 < 8 := Nat.mod_lt _ (by decide)
  by_cases z : f % 8 = 7
  · refine br_t ((tb_d_6 _ hd).mpr z) (br_f (by decide) (br_f (by decide) ?_))
    rw [tb_lm1 f]
    refine pk_le (tb_lv f - 1) (tb_lv t) (fun y => ⟨tb_lv f - 1 + 1, ?_⟩) (fun y => ?_)
    · rw [tb_C_b z y] at hp
      exact ty_fits_l hf ht (by omega) y (tb_lv f - 1) 0 (by omega) hp
    · rw [tb_C_a z y] at hp
      exact hp
  · refine br_f (fun w => z ((tb_d_6 _ hd).mp w)) (br_t rfl (br_t rfl (pk_eq (tb_lv t) (tb_lv f) (fun y => ⟨tb_lv f + 1, ?_⟩) (fun y => ?_))))
    · rw [tb_C_d z y] at hp
      exact ty_fits_l hf ht (by omega) (by omega) (tb_lv f) 0 (by omega) hp
    · rw [tb_C_c z y] at hp
      exact hp
end
section
theorem tb_c5 (c : Nat) : nI c * 5 = nI (5 * c) := (pk_mul c 5).trans (congrArg nI (Nat.mul_comm c 5))
theorem tb_5c (c : Nat) : 5 * nI c = nI (5 * c) := pk_mul 5 c
theorem tb_c12 (c : Nat) : nI c * 12 = nI (12 * c) := (pk_mul c 12).trans (congrArg nI (Nat.mul_comm c 12))
theorem tb_12c (c : Nat) : 12 * nI c = nI (12 * c) := pk_mul 12 c
theorem tb_cl (x : Int32) : (x < 0 ∨ 4 ≤ x) ∨ ∃ c, c < 4 ∧ x = nI c := by
  by_cases h : x < 0
  · exact Or.inl (Or.inl h)
  · obtain ⟨j, hj, rfl⟩ := nI_of h
    by_cases h2 : j < 4
    · exact Or.inr ⟨j, h2, rfl⟩
    · exact Or.inl (Or.inr (nI_le (a := 4) (by omega) hj))
theorem tb_gd (x : Int32) : (x < 0 ∨ 2 < x) ∨ ∃ g, g ≤ 2 ∧ x = nI g := by
  by_cases h : x < 0
  · exact Or.inl (Or.inl h)
  · obtain ⟨j, hj, rfl⟩ := nI_of h
    by_cases h2 : j ≤ 2
    · exact Or.inr ⟨j, h2, rfl⟩
    · exact Or.inl (Or.inr (nI_lt (a := 2) (by omega) hj))
theorem tx_cl0 {post : Int32 → Prop} {x : Int32} (h : x < 0 ∨ 4 ≤ x) (hp : post 0) : wpX_isClient post x := by
  by_cases z : x < 0
  · exact br_t z hp
  · exact br_f z (br_t (h.resolve_left z) hp)
theorem tx_cl1 {post : Int32 → Prop} {c : Nat} (h : c < 4) (hp : post 1) : wpX_isClient post (nI c) :=
  br_f (nI_pos (by omega)) (br_f (nI_ge (b := 4) h (by decide)) hp)
theorem ty_cl0 {post : Int32 → Prop} {kc : Int32} {sf sg sc qt qv qg qc on lo kt kv : Nat → Int32} {x : Int32} (h : x < 0 ∨ 4 ≤ x) (hp : post 0) : wpY_isClient post (kc, sf, sg, sc, qt, qv, qg, qc, lo, on, kt, kv) x := by
  by_cases z : x < 0
  · exact br_t z hp
  · exact br_f z (br_t (Int32.lt_of_lt_of_le (by decide) (h.resolve_left z)) hp)
theorem ty_cl1 {post : Int32 → Prop} {kc : Int32} {sf sg sc qt qv qg qc on lo kt kv : Nat → Int32} {c : Nat} (h : c < 4) (hp : post 1) : wpY_isClient post (kc, sf, sg, sc, qt, qv, qg, qc, lo, on, kt, kv) (nI c) :=
  br_f (nI_pos (by omega)) (br_f (nI_nlt (a := 3) (by omega) (by decide)) hp)
theorem tx_gd0 {post : Int32 → Prop} {x : Int32} (h : x < 0 ∨ 2 < x) (hp : post 0) : wpX_isGrade post x := by
  by_cases z : x < 0
  · exact br_t z hp
  · exact br_f z (br_t (h.resolve_left z) hp)
theorem tx_gd1 {post : Int32 → Prop} {g : Nat} (h : g ≤ 2) (hp : post 1) : wpX_isGrade post (nI g) :=
  br_f (nI_pos (by omega)) (br_f (nI_nlt (a := 2) h (by decide)) hp)
def tb_ov (d : Int32) : Option Nat → Int32
  | none => d
  | some q => nI q
theorem tx_find_l {post : Int32 → Prop} {kc : Int32} {sf sg sc qt qv qg qc on lo kt kv : Nat → Int32} {f : Int32} {e : Nat} (he : e ≤ 20) : ∀ k i, i + k = e → post (tb_ov (-1) (tb_fd sf f k i)) → wX_findSubscription_17 post f (nI e) kc sf sg sc qt qv qg qc on lo kt kv (k + 1) (nI i) := by
  intro k
  induction k with
  | zero => exact fun i hi hp => br_t (nI_le (by omega) (by omega)) hp
  | succ k ih =>
    intro i hi hp
    refine br_f (nI_ge (by omega) (by omega)) ⟨vp_in_nI (by omega) (by decide), ?_⟩
    rw [nI_clamp (by omega)]
    by_cases z : sf i = f
    · rw [tb_fd, if_pos z] at hp
      exact br_t z hp
    · rw [tb_fd, if_neg z] at hp
      exact br_f z (nm_r (nI_1 i) (ih (i + 1) (by omega) hp))
theorem tx_find {post : Int32 → Prop} {kc : Int32} {sf sg sc qt qv qg qc on lo kt kv : Nat → Int32} {f : Int32} {c m : Nat} (hc : c < 4) (hm : m ≤ 5) (e : sc c = nI m) (hp : post (tb_ov (-1) (tb_fd sf f m (5 * c)))) : wpX_findSubscription post (kc, sf, sg, sc, qt, qv, qg, qc, on, lo, kt, kv) (nI c) f := by
  unfold wpX_findSubscription
  refine nm_r (tb_c5 c) ⟨vp_in_nI hc (by decide), nm_r (e' := nI (5 * c + m)) ?_ ⟨m + 1, tx_find_l (by omega) m (5 * c) rfl hp⟩⟩
  rw [nI_clamp (by omega), e, nI_add]
theorem ty_find_l {post : Int32 → Prop} {kc : Int32} {sf sg sc qt qv qg qc on lo kt kv : Nat → Int32} {f : Int32} {c m : Nat} (hc : c < 4) (hm : m ≤ 5) (e : sc c = nI m) : ∀ k i, i + k = 5 * c + m → post (tb_ov (-4) (tb_fd sf f k i)) → wY_find_4 post (nI c) f kc sf sg sc qt qv qg qc lo on kt kv (k + 1) (nI i) := by
  have E : 5 * nI c + sc (nI c).toNatClampNeg = nI (5 * c + m) := by rw [nI_clamp (by omega), e, tb_5c, nI_add]
  intro k
  induction k with
  | zero =>
    intro i hi hp
    refine And.intro (vp_in_nI hc (by decide)) ?_
    rw [E]
    exact br_t (nI_le (by omega) (by omega)) hp
  | succ k ih =>
    intro i hi hp
    refine And.intro (vp_in_nI hc (by decide)) ?_
    rw [E]
    refine br_f (nI_ge (by omega) (by omega)) ⟨vp_in_nI (by omega) (by decide), ?_⟩
    rw [nI_clamp (n := i) (by omega)]
    by_cases z : sf i = f
    · rw [tb_fd, if_pos z] at hp
      exact br_t z hp
    · rw [tb_fd, if_neg z] at hp
      exact br_f z (nm_r (nI_1 i) (ih (i + 1) (by omega) hp))
theorem ty_find {post : Int32 → Prop} {kc : Int32} {sf sg sc qt qv qg qc on lo kt kv : Nat → Int32} {f : Int32} {c m : Nat} (hc : c < 4) (hm : m ≤ 5) (e : sc c = nI m) (hp : post (tb_ov (-4) (tb_fd sf f m (5 * c)))) : wpY_find post (kc, sf, sg, sc, qt, qv, qg, qc, lo, on, kt, kv) (nI c) f := by
  unfold wpY_find
  exact nm_r (tb_5c c) ⟨m + 1, ty_find_l hc hm e m (5 * c) rfl hp⟩
theorem tb_Ci_n {x : Int32} {n t : Nat} (hn : tb_ok n) (ht : tb_ok t) (e : x = nI n) : tb_Ci x (nI t) = tb_C n t := by
  unfold tb_Ci
  rw [e, nI_clamp (tb_okl hn), nI_clamp (tb_okl ht)]
theorem tx_bg_l {post : Int32 → Prop} {kc : Int32} {sf sg sc qt qv qg qc on lo kt kv : Nat → Int32} {t : Nat} (ht : tb_ok t) {e : Nat} (he : e ≤ 20) : ∀ k i b, i + k = e → (∀ j, i ≤ j → j < e → ∃ n, tb_ok n ∧ sf j = nI n) → post (tb_bg sg (fun i => tb_Ci (sf i) (nI t)) k i b) → wX_bestGrade_20 post (nI t) (nI e) kc sf sg sc qt qv qg qc on lo kt kv (k + 1) b (nI i) := by
  intro k
  induction k with
  | zero => exact fun i b hi hs hp => br_t (nI_le (by omega) (by omega)) hp
  | succ k ih =>
    intro i b hi hs hp
    have hv : vp_in (nI i) 20 := vp_in_nI (by omega) (by decide)
    have hs' : ∀ j, i + 1 ≤ j → j < e → ∃ n, tb_ok n ∧ sf j = nI n := fun j h1 h2 => hs j (by omega) h2
    refine br_f (nI_ge (by omega) (by omega)) ⟨hv, ?_⟩
    rw [nI_clamp (n := i) (by omega)]
    by_cases z : sg i ≤ b
    · rw [tb_bg, if_neg (fun w => Int32.not_lt.mpr z w.1)] at hp
      exact br_t z (nm_r (nI_1 i) (ih (i + 1) b (by omega) hs' hp))
    · obtain ⟨n, hn, en⟩ := hs i (by omega) (by omega)
      have ec : tb_Ci (sf i) (nI t) = tb_C n t := tb_Ci_n hn ht en
      refine br_f z ⟨hv, ?_⟩
      rw [en]
      refine tx_covers hn ht ?_
      by_cases y : tb_C n t = true
      · rw [tb_bg, if_pos ⟨Int32.not_le.mp z, ec.trans y⟩] at hp
        refine br_f (by rw [y]; decide) ⟨hv, nm_e (nm_r (nI_1 i) (ih (i + 1) (sg i) (by omega) hs' hp))⟩
      · rw [tb_bg, if_neg (fun w => y (ec.symm.trans w.2))] at hp
        exact br_t (by rw [Bool.eq_false_iff.mpr y]; rfl) (nm_r (nI_1 i) (ih (i + 1) b (by omega) hs' hp))
theorem tx_bg {post : Int32 → Prop} {kc : Int32} {sf sg sc qt qv qg qc on lo kt kv : Nat → Int32} {t c : Nat} (ht : tb_ok t) (hc : c < 4) (h : tb_IS sf sg sc) (hp : post (tb_bx sf sg sc c (nI t))) : wpX_bestGrade post (kc, sf, sg, sc, qt, qv, qg, qc, on, lo, kt, kv) (nI c) (nI t) := by
  obtain ⟨m, hm, e, hi⟩ := h c hc
  unfold tb_bx at hp
  rw [e, nI_clamp (by omega)] at hp
  unfold wpX_bestGrade
  refine nm_r (tb_c5 c) ⟨vp_in_nI hc (by decide), nm_r (e' := nI (5 * c + m)) ?_ ⟨m + 1, tx_bg_l ht (by omega) m (5 * c) (-1) rfl (fun j h1 h2 => ?_) hp⟩⟩
  · rw [nI_clamp (by omega), e, nI_add]
  · obtain ⟨i, rfl⟩ : ∃ i, j = 5 * c + i := ⟨j - 5 * c, by omega⟩
    exact (hi i (by omega)).1
theorem ty_bg_l {post : Int32 → Prop} {kc : Int32} {sf sg sc qt qv qg qc on lo kt kv : Nat → Int32} {t : Nat} (ht : tb_ok t) {c m : Nat} (hc : c < 4) (hm : m ≤ 5) (e : sc c = nI m) : ∀ k i b, i + k = 5 * c + m → (∀ j, i ≤ j → j < 5 * c + m → ∃ n, tb_ok n ∧ sf j = nI n) → post (tb_bg sg (fun i => tb_Ci (sf i) (nI t)) k i b) → wY_greatest_8 post (nI c) (nI t) kc sf sg sc qt qv qg qc lo on kt kv (k + 1) b (nI i) := by
  have E : 5 * nI c + sc (nI c).toNatClampNeg = nI (5 * c + m) := by rw [nI_clamp (by omega), e, tb_5c, nI_add]
  intro k
  induction k with
  | zero =>
    intro i b hi hs hp
    refine And.intro (vp_in_nI hc (by decide)) ?_
    rw [E]
    exact br_t (nI_le (by omega) (by omega)) hp
  | succ k ih =>
    intro i b hi hs hp
    have hv : vp_in (nI i) 20 := vp_in_nI (by omega) (by decide)
    have hs' : ∀ j, i + 1 ≤ j → j < 5 * c + m → ∃ n, tb_ok n ∧ sf j = nI n := fun j h1 h2 => hs j (by omega) h2
    refine And.intro (vp_in_nI hc (by decide)) ?_
    rw [E]
    refine br_f (nI_ge (by omega) (by omega)) ⟨hv, ?_⟩
    rw [nI_clamp (n := i) (by omega)]
    by_cases z : sg i ≤ b
    · rw [tb_bg, if_neg (fun w => Int32.not_lt.mpr z w.1)] at hp
      exact br_t z (nm_r (nI_1 i) (ih (i + 1) b (by omega) hs' hp))
    · obtain ⟨n, hn, en⟩ := hs i (by omega) (by omega)
      have ec : tb_Ci (sf i) (nI t) = tb_C n t := tb_Ci_n hn ht en
      refine br_f z ⟨hv, ?_⟩
      rw [en]
      refine ty_fits hn ht ?_
      by_cases y : tb_C n t = true
      · rw [tb_bg, if_pos ⟨Int32.not_le.mp z, ec.trans y⟩] at hp
        refine br_f (by rw [y]; decide) ⟨hv, nm_e (nm_r (nI_1 i) (ih (i + 1) (sg i) (by omega) hs' hp))⟩
      · rw [tb_bg, if_neg (fun w => y (ec.symm.trans w.2))] at hp
        exact br_t (by rw [Bool.eq_false_iff.mpr y]; rfl) (nm_r (nI_1 i) (ih (i + 1) b (by omega) hs' hp))
theorem ty_bg {post : Int32 → Prop} {kc : Int32} {sf sg sc qt qv qg qc on lo kt kv : Nat → Int32} {t c : Nat} (ht : tb_ok t) (hc : c < 4) (h : tb_IS sf sg sc) (hp : post (tb_by sf sg sc c (nI t))) : wpY_greatest post (kc, sf, sg, sc, qt, qv, qg, qc, lo, on, kt, kv) (nI c) (nI t) := by
  obtain ⟨m, hm, e, hi⟩ := h c hc
  unfold tb_by at hp
  rw [e, nI_clamp (by omega)] at hp
  unfold wpY_greatest
  refine nm_r (tb_5c c) ⟨m + 1, ty_bg_l ht hc hm e m (5 * c) (-4) rfl (fun j h1 h2 => ?_) hp⟩
  obtain ⟨i, rfl⟩ : ∃ i, j = 5 * c + i := ⟨j - 5 * c, by omega⟩
  exact (hi i (by omega)).1
end
section
def tb_OK (x : Int32) : Prop := ∃ n, tb_ok n ∧ x = nI n
theorem tx_cov {post : Int32 → Prop} {x y : Int32} (hx : tb_OK x) (hy : tb_OK y) (hp : post (tb_b (tb_Ci x y))) : wpX_covers post x y := by
  obtain ⟨f, hf, rfl⟩ := hx
  obtain ⟨t, ht, rfl⟩ := hy
  rw [tb_Ci_n hf ht rfl] at hp
  exact tx_covers hf ht hp
theorem ty_fit {post : Int32 → Prop} {kc : Int32} {sf sg sc qt qv qg qc on lo kt kv : Nat → Int32} {x y : Int32} (hx : tb_OK x) (hy : tb_OK y) (hp : post (tb_b (tb_Ci x y))) : wpY_fits post (kc, sf, sg, sc, qt, qv, qg, qc, lo, on, kt, kv) x y := by
  obtain ⟨f, hf, rfl⟩ := hx
  obtain ⟨t, ht, rfl⟩ := hy
  rw [tb_Ci_n hf ht rfl] at hp
  exact ty_fits hf ht hp
theorem tb_b_ne {b : Bool} (h : b = true) : ¬ tb_b b = 0 := by rw [h]; decide
theorem tb_b_eq {b : Bool} (h : ¬ b = true) : tb_b b = 0 := by rw [Bool.eq_false_iff.mpr h]; rfl
theorem tx_ls {post : Int32 → Prop} {a b : Int32} (hp : post (tb_mn a b)) : wpX_lesser post a b := by
  unfold tb_mn at hp
  by_cases z : b ≤ a
  · rw [if_pos z] at hp
    exact br_t z hp
  · rw [if_neg z] at hp
    exact br_f z hp
theorem tx_dv {post : Int32 → SX → Prop} {kc : Int32} {sf sg sc on kt kv : Nat → Int32} {s : tb_Q} {c : Nat} (hc : c < 4) (hq : tb_IQ s.2.2.2.1) (t v g : Int32)
    (hp : post (tb_b (tb_dr on c g s)) (kc, sf, sg, sc, (tb_dv on c t v g s).1, (tb_dv on c t v g s).2.1, (tb_dv on c t v g s).2.2.1, (tb_dv on c t v g s).2.2.2.1, on, (tb_dv on c t v g s).2.2.2.2, kt, kv)) : wpX_deliver post (kc, sf, sg, sc, s.1, s.2.1, s.2.2.1, s.2.2.2.1, on, s.2.2.2.2, kt, kv) (nI c) t v g := by
  obtain ⟨m, hm, e⟩ := hq c hc
  have hv : vp_in (nI c) 4 := vp_in_nI hc (by decide)
  have K : ¬ (on c = 0 ∧ g = 0) → wX_deliver_16 post (nI c) t v g kc sf sg sc s.1 s.2.1 s.2.2.1 s.2.2.2.1 on s.2.2.2.2 kt kv := by
    intro w
    refine And.intro hv ?_
    rw [nI_clamp (n := c) (by omega), e]
    refine pk_lt m 12 (fun y => ?_) (fun y => ?_)
    · have n12 : ¬ s.2.2.2.1 c = 12 := fun a => absurd ((nI_eq (b := 12) (by omega) (by decide)).mp (e.symm.trans a)) (by omega)
      have er : tb_dr on c g s = true := by
        unfold tb_dr
        rw [if_neg w, if_neg n12]
      have ev : tb_dv on c t v g s = (upd s.1 (12 * c + m) t, upd s.2.1 (12 * c + m) v, upd s.2.2.1 (12 * c + m) g, upd s.2.2.2.1 c (nI m + 1), s.2.2.2.2) := by
        unfold tb_dv
        rw [if_neg w, if_neg n12, e, nI_clamp (by omega)]
      rw [er, ev] at hp
      have hv2 : vp_in (nI (12 * c + m)) 48 := vp_in_nI (by omega) (by decide)
      refine ⟨hv, nm_r (e' := nI (12 * c + m)) (by rw [tb_c12, nI_add]) ⟨hv2, nm_e ⟨hv2, nm_e ⟨hv2, nm_e ⟨hv, hv, nm_e ?_⟩⟩⟩⟩⟩
      rw [nI_clamp (n := 12 * c + m) (by omega)]
      exact hp
    · have n12 : s.2.2.2.1 c = 12 := by
        rw [e, show m = 12 by omega]
        rfl
      have er : tb_dr on c g s = false := by
        unfold tb_dr
        rw [if_neg w, if_pos n12]
      have ev : tb_dv on c t v g s = (s.1, s.2.1, s.2.2.1, s.2.2.2.1, upd s.2.2.2.2 c (s.2.2.2.2 c + 1)) := by
        unfold tb_dv
        rw [if_neg w, if_pos n12]
      rw [er, ev] at hp
      exact ⟨hv, hv, nm_e hp⟩
  unfold wpX_deliver
  refine And.intro hv ?_
  rw [nI_clamp (n := c) (by omega)]
  by_cases z : on c = 0
  · refine br_t z ?_
    by_cases y : g = 0
    · have er : tb_dr on c g s = false := by
        unfold tb_dr
        rw [if_pos ⟨z, y⟩]
      have ev : tb_dv on c t v g s = s := by
        unfold tb_dv
        rw [if_pos ⟨z, y⟩]
      rw [er, ev] at hp
      exact br_t y hp
    · exact br_f y (K (fun w => y w.2))
  · exact br_f z (K (fun w => z w.1))
theorem ty_dv {post : Int32 → SY → Prop} {kc : Int32} {sf sg sc on kt kv : Nat → Int32} {s : tb_Q} {c : Nat} (hc : c < 4) (hq : tb_IQ s.2.2.2.1) (t v g : Int32)
    (hp : post (tb_b (tb_dr on c g s)) (kc, sf, sg, sc, (tb_dv on c t v g s).1, (tb_dv on c t v g s).2.1, (tb_dv on c t v g s).2.2.1, (tb_dv on c t v g s).2.2.2.1, (tb_dv on c t v g s).2.2.2.2, on, kt, kv)) : wpY_send post (kc, sf, sg, sc, s.1, s.2.1, s.2.2.1, s.2.2.2.1, s.2.2.2.2, on, kt, kv) (nI c) t v g := by
  obtain ⟨m, hm, e⟩ := hq c hc
  have hv : vp_in (nI c) 4 := vp_in_nI hc (by decide)
  have K : ¬ (on c = 0 ∧ g = 0) → wY_send_16 post (nI c) t v g kc sf sg sc s.1 s.2.1 s.2.2.1 s.2.2.2.1 s.2.2.2.2 on kt kv := by
    intro w
    refine And.intro hv ?_
    rw [nI_clamp (n := c) (by omega), e]
    refine pk_eq m 12 (fun y => ?_) (fun y => ?_)
    · have n12 : s.2.2.2.1 c = 12 := by
        rw [e, y]
        rfl
      have er : tb_dr on c g s = false := by
        unfold tb_dr
        rw [if_neg w, if_pos n12]
      have ev : tb_dv on c t v g s = (s.1, s.2.1, s.2.2.1, s.2.2.2.1, upd s.2.2.2.2 c (s.2.2.2.2 c + 1)) := by
        unfold tb_dv
        rw [if_neg w, if_pos n12]
      rw [er, ev] at hp
      exact ⟨hv, hv, nm_e hp⟩
    · have n12 : ¬ s.2.2.2.1 c = 12 := fun a => absurd ((nI_eq (b := 12) (by omega) (by decide)).mp (e.symm.trans a)) (by omega)
      have er : tb_dr on c g s = true := by
        unfold tb_dr
        rw [if_neg w, if_neg n12]
      have ev : tb_dv on c t v g s = (upd s.1 (12 * c + m) t, upd s.2.1 (12 * c + m) v, upd s.2.2.1 (12 * c + m) g, upd s.2.2.2.1 c (nI m + 1), s.2.2.2.2) := by
        unfold tb_dv
        rw [if_neg w, if_neg n12, e, nI_clamp (by omega)]
      rw [er, ev] at hp
      have hv2 : vp_in (nI (12 * c + m)) 48 := vp_in_nI (by omega) (by decide)
      refine ⟨hv, nm_r (e' := nI (12 * c + m)) (by rw [tb_12c, nI_add]) ⟨hv2, nm_e ⟨hv2, nm_e ⟨hv2, nm_e ⟨hv, hv, nm_e ?_⟩⟩⟩⟩⟩
      rw [nI_clamp (n := 12 * c + m) (by omega)]
      exact hp
  unfold wpY_send
  refine And.intro hv ?_
  rw [nI_clamp (n := c) (by omega)]
  by_cases z : on c = 0
  · refine br_t z ?_
    by_cases y : g = 0
    · have er : tb_dr on c g s = false := by
        unfold tb_dr
        rw [if_pos ⟨z, y⟩]
      have ev : tb_dv on c t v g s = s := by
        unfold tb_dv
        rw [if_pos ⟨z, y⟩]
      rw [er, ev] at hp
      exact br_t y hp
    · exact br_f y (K (fun w => y w.2))
  · exact br_f z (K (fun w => z w.1))
theorem tx_sk_l {post : Int32 → SX → Prop} {sf sg sc on kt kv : Nat → Int32} {c km : Nat} {f g : Int32} (hc : c < 4) (hf : tb_OK f) (hk : km ≤ 8) (hkt : ∀ i, i < km → tb_OK (kt i)) :
    ∀ k i n (s : tb_Q), i + k = km → tb_IQ s.2.2.2.1 → post (tb_sk on kt kv (fun i => tb_Ci f (kt i)) c g k i n s).1 (nI km, sf, sg, sc, (tb_sk on kt kv (fun i => tb_Ci f (kt i)) c g k i n s).2.1, (tb_sk on kt kv (fun i => tb_Ci f (kt i)) c g k i n s).2.2.1, (tb_sk on kt kv (fun i => tb_Ci f (kt i)) c g k i n s).2.2.2.1, (tb_sk on kt kv (fun i => tb_Ci f (kt i)) c g k i n s).2.2.2.2.1, on, (tb_sk on kt kv (fun i => tb_Ci f (kt i)) c g k i n s).2.2.2.2.2, kt, kv) →
    wX_sendKept_13 post (nI c) f g (k + 1) n (nI i) (nI km) sf sg sc s.1 s.2.1 s.2.2.1 s.2.2.2.1 on s.2.2.2.2 kt kv := by
  intro k
  induction k with
  | zero => exact fun i n s hi hq hp => br_t (nI_le (by omega) (by omega)) hp
  | succ k ih =>
    intro i n s hi hq hp
    have hv : vp_in (nI i) 8 := vp_in_nI (by omega) (by decide)
    refine br_f (nI_ge (by omega) (by omega)) ⟨hv, ?_⟩
    rw [nI_clamp (n := i) (by omega)]
    refine tx_cov hf (hkt i (by omega)) ?_
    by_cases y : tb_Ci f (kt i) = true
    · rw [tb_sk, if_pos y] at hp
      exact br_f (tb_b_ne y) ⟨hv, hv, tx_dv hc hq _ _ _ (nm_e (nm_r (nI_1 i) (ih (i + 1) (n + 1) _ (by omega) (tb_dv_q hc hq) hp)))⟩
    · rw [tb_sk, if_neg y] at hp
      exact br_t (tb_b_eq y) (nm_r (nI_1 i) (ih (i + 1) n s (by omega) hq hp))
theorem ty_sk_l {post : Int32 → SY → Prop} {sf sg sc on kt kv : Nat → Int32} {c km : Nat} {f g : Int32} (hc : c < 4) (hf : tb_OK f) (hk : km ≤ 8) (hkt : ∀ i, i < km → tb_OK (kt i)) :
    ∀ k i n (s : tb_Q), i + k = km → tb_IQ s.2.2.2.1 → post (tb_sk on kt kv (fun i => tb_Ci f (kt i)) c (tb_mn g 1) k i n s).1 (nI km, sf, sg, sc, (tb_sk on kt kv (fun i => tb_Ci f (kt i)) c (tb_mn g 1) k i n s).2.1, (tb_sk on kt kv (fun i => tb_Ci f (kt i)) c (tb_mn g 1) k i n s).2.2.1, (tb_sk on kt kv (fun i => tb_Ci f (kt i)) c (tb_mn g 1) k i n s).2.2.2.1, (tb_sk on kt kv (fun i => tb_Ci f (kt i)) c (tb_mn g 1) k i n s).2.2.2.2.1, (tb_sk on kt kv (fun i => tb_Ci f (kt i)) c (tb_mn g 1) k i n s).2.2.2.2.2, on, kt, kv) →
    wY_subscribe_106 post (nI c) f g (k + 1) n (nI i) (nI km) sf sg sc s.1 s.2.1 s.2.2.1 s.2.2.2.1 s.2.2.2.2 on kt kv := by
  intro k
  induction k with
  | zero => exact fun i n s hi hq hp => br_t (nI_le (by omega) (by omega)) hp
  | succ k ih =>
    intro i n s hi hq hp
    have hv : vp_in (nI i) 8 := vp_in_nI (by omega) (by decide)
    refine br_f (nI_ge (by omega) (by omega)) ⟨hv, ?_⟩
    rw [nI_clamp (n := i) (by omega)]
    refine ty_fit hf (hkt i (by omega)) ?_
    by_cases y : tb_Ci f (kt i) = true
    · rw [tb_sk, if_pos y] at hp
      refine br_f (tb_b_ne y) ⟨hv, hv, ?_⟩
      have K : wY_subscribe_156 post (wY_subscribe_106 post (nI c) f g (k + 1)) (nI c) f g n (nI i) (tb_mn g 1) (kv i) (kt i) (nI c) (nI km) sf sg sc s.1 s.2.1 s.2.2.1 s.2.2.2.1 s.2.2.2.2 on kt kv := by
        unfold wY_subscribe_156
        exact ty_dv hc hq _ _ _ (nm_e (nm_r (nI_1 i) (ih (i + 1) (n + 1) _ (by omega) (tb_dv_q hc hq) hp)))
      by_cases z : 1 ≤ g
      · rw [show tb_mn g 1 = 1 from if_pos z] at K
        exact br_t z K
      · rw [show tb_mn g 1 = g from if_neg z] at K
        exact br_f z K
    · rw [tb_sk, if_neg y] at hp
      exact br_t (tb_b_eq y) (nm_r (nI_1 i) (ih (i + 1) n s (by omega) hq hp))
theorem tx_pb_l {post : Int32 → SX → Prop} {kc : Int32} {sf sg sc on kt kv : Nat → Int32} {t : Nat} {v g : Int32} (ht : tb_ok t) (hS : tb_IS sf sg sc) :
    ∀ k c n (s : tb_Q), c + k = 4 → tb_IQ s.2.2.2.1 → post (tb_pb on (fun c => tb_bx sf sg sc c (nI t)) (nI t) v g k c n s).1 (kc, sf, sg, sc, (tb_pb on (fun c => tb_bx sf sg sc c (nI t)) (nI t) v g k c n s).2.1, (tb_pb on (fun c => tb_bx sf sg sc c (nI t)) (nI t) v g k c n s).2.2.1, (tb_pb on (fun c => tb_bx sf sg sc c (nI t)) (nI t) v g k c n s).2.2.2.1, (tb_pb on (fun c => tb_bx sf sg sc c (nI t)) (nI t) v g k c n s).2.2.2.2.1, on, (tb_pb on (fun c => tb_bx sf sg sc c (nI t)) (nI t) v g k c n s).2.2.2.2.2, kt, kv) →
    wX_publish_22 post (nI t) v g (k + 1) n (nI c) kc sf sg sc s.1 s.2.1 s.2.2.1 s.2.2.2.1 on s.2.2.2.2 kt kv := by
  intro k
  induction k with
  | zero => exact fun c n s hc hq hp => br_t (nI_le (a := 4) (by omega) (by omega)) hp
  | succ k ih =>
    intro c n s hk hq hp
    have hc : c < 4 := by omega
    refine br_f (nI_ge (b := 4) hc (by decide)) (tx_bg ht hc hS ?_)
    by_cases z : tb_bx sf sg sc c (nI t) = -1
    · rw [tb_pb, if_pos z] at hp
      exact br_t z (nm_r (nI_1 c) (ih (c + 1) n s (by omega) hq hp))
    · rw [tb_pb, if_neg z] at hp
      refine br_f z (tx_ls (tx_dv hc hq _ _ _ ?_))
      by_cases y : tb_dr on c (tb_mn (tb_bx sf sg sc c (nI t)) g) s = true
      · rw [if_pos y] at hp
        exact br_f (tb_b_ne y) (nm_e (nm_r (nI_1 c) (ih (c + 1) (n + 1) _ (by omega) (tb_dv_q hc hq) hp)))
      · rw [if_neg y] at hp
        exact br_t (tb_b_eq y) (nm_r (nI_1 c) (ih (c + 1) n _ (by omega) (tb_dv_q hc hq) hp))
theorem ty_pb_l {post : Int32 → SY → Prop} {kc : Int32} {sf sg sc on kt kv : Nat → Int32} {t : Nat} {v g : Int32} (ht : tb_ok t) (hS : tb_IS sf sg sc) :
    ∀ k c n (s : tb_Q), c + k = 4 → tb_IQ s.2.2.2.1 → post (tb_pb on (fun c => tb_bx sf sg sc c (nI t)) (nI t) v g k c n s).1 (kc, sf, sg, sc, (tb_pb on (fun c => tb_bx sf sg sc c (nI t)) (nI t) v g k c n s).2.1, (tb_pb on (fun c => tb_bx sf sg sc c (nI t)) (nI t) v g k c n s).2.2.1, (tb_pb on (fun c => tb_bx sf sg sc c (nI t)) (nI t) v g k c n s).2.2.2.1, (tb_pb on (fun c => tb_bx sf sg sc c (nI t)) (nI t) v g k c n s).2.2.2.2.1, (tb_pb on (fun c => tb_bx sf sg sc c (nI t)) (nI t) v g k c n s).2.2.2.2.2, on, kt, kv) →
    wY_publish_25 post (nI t) v g (k + 1) n (nI c) kc sf sg sc s.1 s.2.1 s.2.2.1 s.2.2.2.1 s.2.2.2.2 on kt kv := by
  intro k
  induction k with
  | zero => exact fun c n s hc hq hp => br_t (nI_le (a := 4) (by omega) (by omega)) hp
  | succ k ih =>
    intro c n s hk hq hp
    have hc : c < 4 := by omega
    have hb := tb_bxy (nI t) hS hc
    refine br_f (nI_ge (b := 4) hc (by decide)) (ty_bg ht hc hS ?_)
    by_cases z : tb_bx sf sg sc c (nI t) = -1
    · rw [tb_pb, if_pos z] at hp
      exact br_t ((tb_bxy_n hb).mp z) (nm_r (nI_1 c) (ih (c + 1) n s (by omega) hq hp))
    · rw [tb_pb, if_neg z] at hp
      refine br_f (fun w => z ((tb_bxy_n hb).mpr w)) ?_
      rw [tb_bxy_e hb z]
      have K : wY_publish_64 post (wY_publish_25 post (nI t) v g (k + 1)) (nI t) v g n (nI c) (tb_mn (tb_bx sf sg sc c (nI t)) g) v (nI t) (nI c) kc sf sg sc s.1 s.2.1 s.2.2.1 s.2.2.2.1 s.2.2.2.2 on kt kv := by
        unfold wY_publish_64
        refine ty_dv hc hq _ _ _ ?_
        by_cases y : tb_dr on c (tb_mn (tb_bx sf sg sc c (nI t)) g) s = true
        · rw [if_pos y] at hp
          exact br_f (tb_b_ne y) (nm_e (nm_r (nI_1 c) (ih (c + 1) (n + 1) _ (by omega) (tb_dv_q hc hq) hp)))
        · rw [if_neg y] at hp
          exact br_t (tb_b_eq y) (nm_r (nI_1 c) (ih (c + 1) n _ (by omega) (tb_dv_q hc hq) hp))
      by_cases w : g ≤ tb_bx sf sg sc c (nI t)
      · rw [show tb_mn (tb_bx sf sg sc c (nI t)) g = g from if_pos w] at K
        exact br_t w K
      · rw [show tb_mn (tb_bx sf sg sc c (nI t)) g = tb_bx sf sg sc c (nI t) from if_neg w] at K
        exact br_f w K
end
section
theorem tx_fk_l {post : Int32 → Prop} {kc : Int32} {sf sg sc qt qv qg qc on lo kt kv : Nat → Int32} {t : Int32} {km : Nat} (hk : km ≤ 8) : ∀ k i, i + k = km → post (tb_ov (-1) (tb_fd kt t k i)) → wX_findKept_2 post t (nI km) sf sg sc qt qv qg qc on lo kt kv (k + 1) (nI i) := by
  intro k
  induction k with
  | zero => exact fun i hi hp => br_t (nI_le (by omega) (by omega)) hp
  | succ k ih =>
    intro i hi hp
    refine br_f (nI_ge (by omega) (by omega)) ⟨vp_in_nI (by omega) (by decide), ?_⟩
    rw [nI_clamp (n := i) (by omega)]
    by_cases z : kt i = t
    · rw [tb_fd, if_pos z] at hp
      exact br_t z hp
    · rw [tb_fd, if_neg z] at hp
      exact br_f z (nm_r (nI_1 i) (ih (i + 1) (by omega) hp))
theorem tx_fk {post : Int32 → Prop} {kc : Int32} {sf sg sc qt qv qg qc on lo kt kv : Nat → Int32} {t : Int32} {km : Nat} (hk : km ≤ 8) (hp : post (tb_ov (-1) (tb_fd kt t km 0))) : wpX_findKept post (nI km, sf, sg, sc, qt, qv, qg, qc, on, lo, kt, kv) t :=
  Exists.intro (km + 1) (tx_fk_l (kc := kc) hk km 0 (by omega) hp)
theorem ty_kp_l {post : Int32 → Prop} {kc : Int32} {sf sg sc qt qv qg qc on lo kt kv : Nat → Int32} {t : Int32} {km : Nat} (hk : km ≤ 8) : ∀ k i, i + k = km → post (nI (tb_pl kt t k i)) → wY_keptPlace_2 post t (nI km) sf sg sc qt qv qg qc lo on kt kv (k + 1) (nI i) := by
  intro k
  induction k with
  | zero => exact fun i hi hp => br_t (nI_le (by omega) (by omega)) hp
  | succ k ih =>
    intro i hi hp
    refine br_f (nI_ge (by omega) (by omega)) ⟨vp_in_nI (by omega) (by decide), ?_⟩
    rw [nI_clamp (n := i) (by omega)]
    by_cases z : kt i < t
    · rw [tb_pl, if_pos z] at hp
      exact br_f (Int32.not_le.mpr z) (nm_r (nI_1 i) (ih (i + 1) (by omega) hp))
    · rw [tb_pl, if_neg z] at hp
      exact br_t (Int32.not_lt.mp z) hp
theorem ty_kp {post : Int32 → Prop} {kc : Int32} {sf sg sc qt qv qg qc on lo kt kv : Nat → Int32} {t : Int32} {km : Nat} (hk : km ≤ 8) (hp : post (nI (tb_pl kt t km 0))) : wpY_keptPlace post (nI km, sf, sg, sc, qt, qv, qg, qc, lo, on, kt, kv) t :=
  Exists.intro (km + 1) (ty_kp_l (kc := kc) hk km 0 (by omega) hp)
theorem tx_ik_l {post : SX → Prop} {kc : Int32} {sf sg sc qt qv qg qc on lo : Nat → Int32} {t v : Int32} {p : Nat} : ∀ k (kt kv : Nat → Int32), p + k < 8 → (∀ j, j < p → kt j < t) → (∀ j, p ≤ j → j < p + k → t < kt j) →
    post (kc + 1, sf, sg, sc, qt, qv, qg, qc, on, lo, upd (tb_su k p kt) p t, upd (tb_su k p kv) p v) → wX_insertKept_11 post t v kc (k + 1) (nI (p + k)) (nI (p + k)) sf sg sc qt qv qg qc on lo kt kv := by
  intro k
  induction k with
  | zero =>
    intro kt kv hk h1 h2 hp
    have hv : vp_in (nI p) 8 := vp_in_nI (by omega) (by decide)
    have K : wX_insertKept_72 post t v (nI p) kc sf sg sc qt qv qg qc on lo kt kv := by
      unfold wX_insertKept_72
      rw [nI_clamp (n := p) (by omega)]
      exact ⟨hv, nm_e ⟨hv, nm_e (nm_e hp)⟩⟩
    by_cases z : p = 0
    · subst z
      exact br_t (nI_le (Nat.le_refl 0) (by decide)) K
    · refine br_f (nI_nle (by omega) (by omega)) ?_
      obtain ⟨q, rfl⟩ : ∃ q, p = q + 1 := ⟨p - 1, by omega⟩
      rw [show nI (q + 1 + 0) - 1 = nI q from nI_pred q, nI_clamp (n := q) (by omega)]
      exact ⟨vp_in_nI (by omega) (by decide), br_t (Int32.le_of_lt (h1 q (by omega))) K⟩
  | succ k ih =>
    intro kt kv hk h1 h2 hp
    have hv : vp_in (nI (p + k)) 8 := vp_in_nI (by omega) (by decide)
    have hv2 : vp_in (nI (p + k + 1)) 8 := vp_in_nI (by omega) (by decide)
    show wX_insertKept_11 post t v kc (k + 1 + 1) (nI (p + k + 1)) (nI (p + k + 1)) sf sg sc qt qv qg qc on lo kt kv
    refine br_f (nI_nle (by omega) (by omega)) ?_
    rw [nI_pred (p + k), nI_clamp (n := p + k) (by omega), nI_clamp (n := p + k + 1) (by omega)]
    refine ⟨hv, br_f (Int32.not_le.mpr (h2 (p + k) (by omega) (by omega))) ⟨hv, hv2, nm_e ⟨hv, hv2, nm_e (nm_e (nm_r (pk_m1 (p + k)) (ih _ _ (by omega) (fun j hj => ?_) (fun j hj hj2 => ?_) hp)))⟩⟩⟩
    · rw [pk_un (by omega)]
      exact h1 j hj
    · rw [pk_un (by omega)]
      exact h2 j hj (by omega)
theorem ty_ik_l {post : Int32 → SY → Prop} {kc : Int32} {sf sg sc qt qv qg qc on lo : Nat → Int32} {t v : Int32} {p : Nat} : ∀ k (kt kv : Nat → Int32), p + k < 8 →
    post 0 (kc + 1, sf, sg, sc, qt, qv, qg, qc, lo, on, upd (tb_su k p kt) p t, upd (tb_su k p kv) p v) → wY_keep_61 post t v (nI p) kc (k + 1) (nI (p + k)) sf sg sc qt qv qg qc lo on kt kv := by
  intro k
  induction k with
  | zero =>
    intro kt kv hk hp
    have hv : vp_in (nI p) 8 := vp_in_nI (by omega) (by decide)
    refine br_t (nI_le (Nat.le_refl p) (by omega)) ?_
    rw [nI_clamp (n := p) (by omega)]
    exact ⟨hv, nm_e ⟨hv, nm_e (nm_e hp)⟩⟩
  | succ k ih =>
    intro kt kv hk hp
    have hv : vp_in (nI (p + k)) 8 := vp_in_nI (by omega) (by decide)
    have hv2 : vp_in (nI (p + k + 1)) 8 := vp_in_nI (by omega) (by decide)
    show wY_keep_61 post t v (nI p) kc (k + 1 + 1) (nI (p + k + 1)) sf sg sc qt qv qg qc lo on kt kv
    refine br_f (nI_ge (by omega) (by omega)) ?_
    rw [nI_pred (p + k), nI_clamp (n := p + k) (by omega), nI_clamp (n := p + k + 1) (by omega)]
    exact ⟨hv, hv2, nm_e ⟨hv, hv2, nm_e (nm_r (pk_m1 (p + k)) (ih _ _ (by omega) hp))⟩⟩
theorem tx_rk_l {post : SX → Prop} {sf sg sc qt qv qg qc on lo : Nat → Int32} {m : Nat} (h1 : 1 ≤ m) (h8 : m ≤ 8) : ∀ k i (kt kv : Nat → Int32), i + k = m - 1 →
    post (nI (m - 1), sf, sg, sc, qt, qv, qg, qc, on, lo, tb_sh k i kt, tb_sh k i kv) → wX_removeKept_2 post (nI m) (k + 1) (nI i) sf sg sc qt qv qg qc on lo kt kv := by
  have E : nI m - 1 = nI (m - 1) := pk_sub (b := 1) h1
  intro k
  induction k with
  | zero =>
    intro i kt kv hi hp
    exact br_t (by rw [E]; exact nI_le (by omega) (by omega)) (nm_r E hp)
  | succ k ih =>
    intro i kt kv hi hp
    have hv : vp_in (nI i) 8 := vp_in_nI (by omega) (by decide)
    have hv2 : vp_in (nI (i + 1)) 8 := vp_in_nI (by omega) (by decide)
    refine br_f (by rw [E]; exact nI_ge (by omega) (by omega)) ?_
    rw [nI_1 i, nI_clamp (n := i) (by omega), nI_clamp (n := i + 1) (by omega)]
    exact ⟨hv2, hv, nm_e ⟨hv2, hv, nm_e (nm_e (ih (i + 1) _ _ (by omega) hp))⟩⟩
theorem ty_rk_l {post : Int32 → SY → Prop} {sf sg sc qt qv qg qc on lo : Nat → Int32} {e : Nat} (h8 : e < 8) : ∀ k i (kt kv : Nat → Int32), i + k = e →
    post 0 (nI e, sf, sg, sc, qt, qv, qg, qc, lo, on, tb_sh k i kt, tb_sh k i kv) → wY_forget_49 post (nI e) (k + 1) (nI i) sf sg sc qt qv qg qc lo on kt kv := by
  intro k
  induction k with
  | zero =>
    intro i kt kv hi hp
    exact br_t (nI_le (by omega) (by omega)) hp
  | succ k ih =>
    intro i kt kv hi hp
    have hv : vp_in (nI i) 8 := vp_in_nI (by omega) (by decide)
    have hv2 : vp_in (nI (i + 1)) 8 := vp_in_nI (by omega) (by decide)
    refine br_f (nI_ge (by omega) (by omega)) ?_
    rw [nI_1 i, nI_clamp (n := i) (by omega), nI_clamp (n := i + 1) (by omega)]
    exact ⟨hv2, hv, nm_e ⟨hv2, hv, nm_e (nm_e (ih (i + 1) _ _ (by omega) hp))⟩⟩
theorem tx_rf_l {post : SX → Prop} {kc : Int32} {sf sg sc qc on lo kt kv : Nat → Int32} {c m : Nat} (hc : c < 4) (h1 : 1 ≤ m) (h12 : m ≤ 12) (em : qc c = nI m) : ∀ k i (qt qv qg : Nat → Int32), i + k = 12 * c + m - 1 →
    post (kc, sf, sg, sc, tb_sh k i qt, tb_sh k i qv, tb_sh k i qg, upd qc c (nI (m - 1)), on, lo, kt, kv) → wX_removeFirst_19 post (nI c) (nI (12 * c + m - 1)) kc (k + 1) (nI i) sf sg sc qt qv qg qc on lo kt kv := by
  have hc4 : vp_in (nI c) 4 := vp_in_nI hc (by decide)
  have E : nI m - 1 = nI (m - 1) := pk_sub (b := 1) h1
  intro k
  induction k with
  | zero =>
    intro i qt qv qg hi hp
    refine br_t (nI_le (by omega) (by omega)) ⟨hc4, hc4, nm_e ?_⟩
    rw [nI_clamp (n := c) (by omega), em, E]
    exact hp
  | succ k ih =>
    intro i qt qv qg hi hp
    have hv : vp_in (nI i) 48 := vp_in_nI (by omega) (by decide)
    have hv2 : vp_in (nI (i + 1)) 48 := vp_in_nI (by omega) (by decide)
    refine br_f (nI_ge (by omega) (by omega)) ?_
    rw [nI_1 i, nI_clamp (n := i) (by omega), nI_clamp (n := i + 1) (by omega)]
    exact ⟨hv2, hv, nm_e ⟨hv2, hv, nm_e ⟨hv2, hv, nm_e (nm_e (ih (i + 1) _ _ _ (by omega) hp))⟩⟩⟩
theorem ty_rf_l {post : Int32 → SY → Prop} {kc : Int32} {sf sg sc qc on lo kt kv : Nat → Int32} {c m : Nat} {r : Int32} (hc : c < 4) (h12 : m < 12) (em : qc c = nI m) : ∀ k i (qt qv qg : Nat → Int32), i + k = 12 * c + m →
    post r (kc, sf, sg, sc, tb_sh k i qt, tb_sh k i qv, tb_sh k i qg, qc, lo, on, kt, kv) → wY_take_53 post (nI c) r kc (k + 1) (nI i) sf sg sc qt qv qg qc lo on kt kv := by
  have hc4 : vp_in (nI c) 4 := vp_in_nI hc (by decide)
  have E : 12 * nI c + qc (nI c).toNatClampNeg = nI (12 * c + m) := by rw [nI_clamp (by omega), em, tb_12c, nI_add]
  intro k
  induction k with
  | zero =>
    intro i qt qv qg hi hp
    refine And.intro hc4 ?_
    rw [E]
    exact br_t (nI_le (by omega) (by omega)) hp
  | succ k ih =>
    intro i qt qv qg hi hp
    have hv : vp_in (nI i) 48 := vp_in_nI (by omega) (by decide)
    have hv2 : vp_in (nI (i + 1)) 48 := vp_in_nI (by omega) (by decide)
    refine And.intro hc4 ?_
    rw [E]
    refine br_f (nI_ge (by omega) (by omega)) ?_
    rw [nI_1 i, nI_clamp (n := i) (by omega), nI_clamp (n := i + 1) (by omega)]
    exact ⟨hv2, hv, nm_e ⟨hv2, hv, nm_e ⟨hv2, hv, nm_e (nm_e (ih (i + 1) _ _ _ (by omega) hp))⟩⟩⟩
theorem tx_rs_l {post : SX → Prop} {kc : Int32} {sc qt qv qg qc on lo kt kv : Nat → Int32} {c m : Nat} (hc : c < 4) (h1 : 1 ≤ m) (h5 : m ≤ 5) (em : sc c = nI m) : ∀ k i (sf sg : Nat → Int32), i + k = 5 * c + m - 1 →
    post (kc, tb_sh k i sf, tb_sh k i sg, upd sc c (nI (m - 1)), qt, qv, qg, qc, on, lo, kt, kv) → wX_removeSubscription_16 post (nI c) (nI (5 * c + m - 1)) kc (k + 1) (nI i) sf sg sc qt qv qg qc on lo kt kv := by
  have hc4 : vp_in (nI c) 4 := vp_in_nI hc (by decide)
  have E : nI m - 1 = nI (m - 1) := pk_sub (b := 1) h1
  intro k
  induction k with
  | zero =>
    intro i sf sg hi hp
    refine br_t (nI_le (by omega) (by omega)) ⟨hc4, hc4, nm_e ?_⟩
    rw [nI_clamp (n := c) (by omega), em, E]
    exact hp
  | succ k ih =>
    intro i sf sg hi hp
    have hv : vp_in (nI i) 20 := vp_in_nI (by omega) (by decide)
    have hv2 : vp_in (nI (i + 1)) 20 := vp_in_nI (by omega) (by decide)
    refine br_f (nI_ge (by omega) (by omega)) ?_
    rw [nI_1 i, nI_clamp (n := i) (by omega), nI_clamp (n := i + 1) (by omega)]
    exact ⟨hv2, hv, nm_e ⟨hv2, hv, nm_e (nm_e (ih (i + 1) _ _ (by omega) hp))⟩⟩
theorem ty_rs_l {post : Int32 → SY → Prop} {kc : Int32} {sc qt qv qg qc on lo kt kv : Nat → Int32} {c m : Nat} {r : Int32} (hc : c < 4) (h5 : m < 5) (em : sc c = nI m) : ∀ k i (sf sg : Nat → Int32), i + k = 5 * c + m →
    post r (kc, tb_sh k i sf, tb_sh k i sg, sc, qt, qv, qg, qc, lo, on, kt, kv) → wY_unsubscribe_55 post (nI c) r kc (k + 1) (nI i) sf sg sc qt qv qg qc lo on kt kv := by
  have hc4 : vp_in (nI c) 4 := vp_in_nI hc (by decide)
  have E : 5 * nI c + sc (nI c).toNatClampNeg = nI (5 * c + m) := by rw [nI_clamp (by omega), em, tb_5c, nI_add]
  intro k
  induction k with
  | zero =>
    intro i sf sg hi hp
    refine And.intro hc4 ?_
    rw [E]
    exact br_t (nI_le (by omega) (by omega)) hp
  | succ k ih =>
    intro i sf sg hi hp
    have hv : vp_in (nI i) 20 := vp_in_nI (by omega) (by decide)
    have hv2 : vp_in (nI (i + 1)) 20 := vp_in_nI (by omega) (by decide)
    refine And.intro hc4 ?_
    rw [E]
    refine br_f (nI_ge (by omega) (by omega)) ?_
    rw [nI_1 i, nI_clamp (n := i) (by omega), nI_clamp (n := i + 1) (by omega)]
    exact ⟨hv2, hv, nm_e ⟨hv2, hv, nm_e (nm_e (ih (i + 1) _ _ (by omega) hp))⟩⟩
theorem tx_kc_l {post : Int32 → Prop} {kc : Int32} {sf sg sc qt qv qg qc on lo kt kv : Nat → Int32} {f : Int32} {km : Nat} (hf : tb_OK f) (hk : km ≤ 8) (hkt : ∀ i, i < km → tb_OK (kt i)) : ∀ k i n, i + k = km → post (tb_kc (fun i => tb_Ci f (kt i)) k i n) → wX_kept_13 post f (nI km) sf sg sc qt qv qg qc on lo kt kv (k + 1) n (nI i) := by
  intro k
  induction k with
  | zero => exact fun i n hi hp => br_t (nI_le (by omega) (by omega)) hp
  | succ k ih =>
    intro i n hi hp
    refine br_f (nI_ge (by omega) (by omega)) ⟨vp_in_nI (by omega) (by decide), ?_⟩
    rw [nI_clamp (n := i) (by omega)]
    refine tx_cov hf (hkt i (by omega)) ?_
    by_cases z : tb_Ci f (kt i) = true
    · rw [tb_kc, if_pos z] at hp
      exact br_f (tb_b_ne z) (nm_e (nm_r (nI_1 i) (ih (i + 1) (n + 1) (by omega) hp)))
    · rw [tb_kc, if_neg z] at hp
      exact br_t (tb_b_eq z) (nm_r (nI_1 i) (ih (i + 1) n (by omega) hp))
theorem ty_kc_l {post : Int32 → Prop} {kc : Int32} {sf sg sc qt qv qg qc on lo kt kv : Nat → Int32} {f : Int32} {km : Nat} (hf : tb_OK f) (hk : km ≤ 8) (hkt : ∀ i, i < km → tb_OK (kt i)) : ∀ k i n, i + k = km → post (tb_kc (fun i => tb_Ci f (kt i)) k i n) → wY_kept_14 post f (nI km) sf sg sc qt qv qg qc lo on kt kv (k + 1) n (nI i) := by
  intro k
  induction k with
  | zero => exact fun i n hi hp => br_t (nI_le (by omega) (by omega)) hp
  | succ k ih =>
    intro i n hi hp
    refine br_f (nI_ge (by omega) (by omega)) ⟨vp_in_nI (by omega) (by decide), ?_⟩
    rw [nI_clamp (n := i) (by omega)]
    refine ty_fit hf (hkt i (by omega)) ?_
    by_cases z : tb_Ci f (kt i) = true
    · rw [tb_kc, if_pos z] at hp
      exact br_f (tb_b_ne z) (nm_e (nm_r (nI_1 i) (ih (i + 1) (n + 1) (by omega) hp)))
    · rw [tb_kc, if_neg z] at hp
      exact br_t (tb_b_eq z) (nm_r (nI_1 i) (ih (i + 1) n (by omega) hp))
theorem tx_rc_l {post : Int32 → Prop} {kc : Int32} {sf sg sc qt qv qg qc on lo kt kv : Nat → Int32} {t : Nat} (ht : tb_ok t) (hS : tb_IS sf sg sc) : ∀ k c n, c + k = 4 → post (tb_rc (fun c => tb_bx sf sg sc c (nI t)) k c n) → wX_reached_13 post (nI t) kc sf sg sc qt qv qg qc on lo kt kv (k + 1) n (nI c) := by
  intro k
  induction k with
  | zero => exact fun c n hc hp => br_t (nI_le (a := 4) (by omega) (by omega)) hp
  | succ k ih =>
    intro c n hk hp
    have hc : c < 4 := by omega
    refine br_f (nI_ge (b := 4) hc (by decide)) (tx_bg ht hc hS ?_)
    by_cases z : tb_bx sf sg sc c (nI t) = -1
    · rw [tb_rc, if_pos z] at hp
      exact br_t z (nm_r (nI_1 c) (ih (c + 1) n (by omega) hp))
    · rw [tb_rc, if_neg z] at hp
      exact br_f z (nm_e (nm_r (nI_1 c) (ih (c + 1) _ (by omega) hp)))
theorem ty_rc_l {post : Int32 → Prop} {kc : Int32} {sf sg sc qt qv qg qc on lo kt kv : Nat → Int32} {t : Nat} (ht : tb_ok t) (hS : tb_IS sf sg sc) : ∀ k c n, c + k = 4 → post (tb_rc (fun c => tb_bx sf sg sc c (nI t)) k c n) → wY_reached_14 post (nI t) kc sf sg sc qt qv qg qc lo on kt kv (k + 1) n (nI c) := by
  intro k
  induction k with
  | zero => exact fun c n hc hp => br_t (nI_le (a := 4) (by omega) (by omega)) hp
  | succ k ih =>
    intro c n hk hp
    have hc : c < 4 := by omega
    have hb := tb_bxy (nI t) hS hc
    refine br_f (nI_ge (b := 4) hc (by decide)) (ty_bg ht hc hS ?_)
    by_cases z : tb_bx sf sg sc c (nI t) = -1
    · rw [tb_rc, if_pos z] at hp
      exact br_t ((tb_bxy_n hb).mp z) (nm_r (nI_1 c) (ih (c + 1) n (by omega) hp))
    · rw [tb_rc, if_neg z] at hp
      exact br_f (fun w => z ((tb_bxy_n hb).mpr w)) (nm_e (nm_r (nI_1 c) (ih (c + 1) _ (by omega) hp)))
theorem tb_wd_f1 {sf sg sc : Nat → Int32} {c t : Nat} (h : ¬ tb_T (nI t) = true) : ¬ tb_wd sf sg sc c t = true := by
  unfold tb_wd
  rw [Bool.eq_false_iff.mpr h]
  exact fun z => nomatch z
theorem tb_wd_f2 {sf sg sc : Nat → Int32} {c t : Nat} (h : tb_bx sf sg sc c (nI t) = -1) : ¬ tb_wd sf sg sc c t = true := by
  unfold tb_wd
  rw [decide_eq_false (fun z => z h), Bool.and_false]
  exact fun z => nomatch z
theorem tb_wd_t {sf sg sc : Nat → Int32} {c t : Nat} (h : tb_T (nI t) = true) (h2 : ¬ tb_bx sf sg sc c (nI t) = -1) : tb_wd sf sg sc c t = true := by
  unfold tb_wd
  rw [h, decide_eq_true h2]
  rfl
theorem tb_T_okt {t : Nat} (ht : t < 2 ^ 31) (h : tb_T (nI t) = true) : tb_ok t := by
  obtain ⟨n, hn, e⟩ := tb_T_ok h
  rw [(nI_eq ht (tb_okl hn)).mp e]
  exact hn
theorem tx_wd_l {post : Int32 → Prop} {kc : Int32} {sf sg sc qt qv qg qc on lo kt kv : Nat → Int32} {c : Nat} (hc : c < 4) (hS : tb_IS sf sg sc) : ∀ k t n, t + k = 4096 → post (tb_kc (tb_wd sf sg sc c) k t n) → wX_breadth_13 post (nI c) kc sf sg sc qt qv qg qc on lo kt kv (k + 1) n (nI t) := by
  intro k
  induction k with
  | zero => exact fun t n ht hp => br_t (nI_lt (a := 4095) (by omega) (by omega)) hp
  | succ k ih =>
    intro t n ht hp
    refine br_f (nI_nlt (a := 4095) (by omega) (by decide)) (tx_isTopic (nI t) ?_)
    by_cases y : tb_T (nI t) = true
    · refine br_f (tb_b_ne y) (tx_bg (tb_T_okt (by omega) y) hc hS ?_)
      by_cases z : tb_bx sf sg sc c (nI t) = -1
      · rw [tb_kc, if_neg (tb_wd_f2 z)] at hp
        exact br_t z (nm_r (nI_1 t) (ih (t + 1) n (by omega) hp))
      · rw [tb_kc, if_pos (tb_wd_t y z)] at hp
        exact br_f z (nm_e (nm_r (nI_1 t) (ih (t + 1) (n + 1) (by omega) hp)))
    · rw [tb_kc, if_neg (tb_wd_f1 y)] at hp
      exact br_t (tb_b_eq y) (nm_r (nI_1 t) (ih (t + 1) n (by omega) hp))
theorem ty_wd_l {post : Int32 → Prop} {kc : Int32} {sf sg sc qt qv qg qc on lo kt kv : Nat → Int32} {c m : Nat} (hc : c < 4) (hS : tb_IS sf sg sc) (em : sc c = nI m) (h0 : 0 < m) (h5 : m ≤ 5) : ∀ k t n, t + k = 4096 → post (tb_kc (tb_wd sf sg sc c) k t n) → wY_breadth_14 post (nI c) kc sf sg sc qt qv qg qc lo on kt kv (k + 1) n (nI t) := by
  intro k
  induction k with
  | zero => exact fun t n ht hp => br_t (nI_le (a := 4096) (by omega) (by omega)) hp
  | succ k ih =>
    intro t n ht hp
    refine br_f (nI_ge (b := 4096) (by omega) (by decide)) ⟨vp_in_nI hc (by decide), ?_⟩
    rw [nI_clamp (n := c) (by omega), em]
    refine br_f (nI_nle h0 (by omega)) (ty_isTopic (nI t) ?_)
    by_cases y : tb_T (nI t) = true
    · have hb := tb_bxy (nI t) hS hc
      refine br_f (tb_b_ne y) (ty_bg (tb_T_okt (by omega) y) hc hS ?_)
      by_cases z : tb_bx sf sg sc c (nI t) = -1
      · rw [tb_kc, if_neg (tb_wd_f2 z)] at hp
        exact br_t ((tb_bxy_n hb).mp z) (nm_r (nI_1 t) (ih (t + 1) n (by omega) hp))
      · rw [tb_kc, if_pos (tb_wd_t y z)] at hp
        exact br_f (fun w => z ((tb_bxy_n hb).mpr w)) (nm_e (nm_r (nI_1 t) (ih (t + 1) (n + 1) (by omega) hp)))
    · rw [tb_kc, if_neg (tb_wd_f1 y)] at hp
      exact br_t (tb_b_eq y) (nm_r (nI_1 t) (ih (t + 1) n (by omega) hp))
end
section
def i_Rel (k : Nat) (u : SX) (v : SY) : Prop := ∃ (kc : Int32) (sf sg sc qt qv qg qc on lo kt kv : Nat → Int32), u = (kc, sf, sg, sc, qt, qv, qg, qc, on, lo, kt, kv) ∧ v = (kc, sf, sg, sc, qt, qv, qg, qc, lo, on, kt, kv) ∧ tb_IS sf sg sc ∧ tb_IQ qc ∧ tb_IK kt kc
theorem tb_mk {k : Nat} {kc : Int32} {sf sg sc qt qv qg qc on lo kt kv : Nat → Int32} (hS : tb_IS sf sg sc) (hQ : tb_IQ qc) (hK : tb_IK kt kc) : i_Rel k (kc, sf, sg, sc, qt, qv, qg, qc, on, lo, kt, kv) (kc, sf, sg, sc, qt, qv, qg, qc, lo, on, kt, kv) := ⟨kc, sf, sg, sc, qt, qv, qg, qc, on, lo, kt, kv, rfl, rfl, hS, hQ, hK⟩
theorem i_up {k : Nat} {u : SX} {v : SY} (h : i_Rel k u v) : i_Rel (k + 4) u v := h
def tb_on : Nat → Nat → (Nat → Int32) → (Nat → Int32)
  | 0, _, a => a
  | k + 1, c, a => tb_on k (c + 1) (upd a c (vp_nar .boolean 1))
theorem tx_init_l {post : SX → Prop} {kc : Int32} {sf sg sc qt qv qg qc lo kt kv : Nat → Int32} : ∀ k c (on : Nat → Int32), c + k = 4 → post (kc, sf, sg, sc, qt, qv, qg, qc, tb_on k c on, lo, kt, kv) → wX_init_90 post kc (k + 1) (nI c) sf sg sc qt qv qg qc on lo kt kv := by
  intro k
  induction k with
  | zero => exact fun c on hc hp => br_t (nI_le (a := 4) (by omega) (by omega)) hp
  | succ k ih =>
    intro c on hc hp
    refine br_f (nI_ge (b := 4) (by omega) (by decide)) ⟨vp_in_nI (by omega) (by decide), ?_⟩
    rw [nI_clamp (n := c) (by omega)]
    exact nm_e (nm_r (nI_1 c) (ih (c + 1) _ (by omega) hp))
theorem ty_init_l {post : SY → Prop} {kc : Int32} {sf sg sc qt qv qg qc lo kt kv : Nat → Int32} : ∀ k c (on : Nat → Int32), c + k = 4 → post (kc, sf, sg, sc, qt, qv, qg, qc, lo, tb_on k c on, kt, kv) → wY_init_90 post kc (k + 1) (nI c) sf sg sc qt qv qg qc lo on kt kv := by
  intro k
  induction k with
  | zero => exact fun c on hc hp => br_t (nI_le (a := 4) (by omega) (by omega)) hp
  | succ k ih =>
    intro c on hc hp
    refine br_f (nI_ge (b := 4) (by omega) (by decide)) ⟨vp_in_nI (by omega) (by decide), ?_⟩
    rw [nI_clamp (n := c) (by omega)]
    exact nm_e (nm_r (nI_1 c) (ih (c + 1) _ (by omega) hp))
theorem i_vc0 : wpX_init (fun u => wpY_init (fun v => i_Rel 0 u v)) :=
  Exists.intro 5 (tx_init_l 4 0 _ rfl (Exists.intro 5 (ty_init_l 4 0 _ rfl (tb_mk tb_IS_0 tb_IQ_0 tb_IK_0))))
theorem tb_n10 : ¬ (1 : Int32) = 0 := by decide
theorem tb_nm1 {q : Nat} (h : q < 2 ^ 31) : ¬ nI q = -1 := fun e => absurd (nI_pos' (n := q) h) (by rw [e]; decide)
theorem tb_nm4 {q : Nat} (h : q < 2 ^ 31) : ¬ nI q = -4 := fun e => absurd (nI_pos' (n := q) h) (by rw [e]; decide)
theorem tb_uid {a : Nat → Int32} {q : Nat} {x : Int32} (h : a q = x) : upd a q x = a := by
  funext j
  by_cases e : j = q
  · rw [e, pk_us, h]
  · rw [pk_un e]
theorem i_vc_matches {k : Nat} {u : SX} {v : SY} (I : i_Rel k u v) (hk : k + 4 ≤ 2048) (v1 : Int32) (v2 : Int32) : wpX_matches (fun r => wpY_matches (fun r' => r' = r ∧ i_Rel (k + 4) u v) v v1 v2) u v1 v2 := by
  have R := i_up I
  obtain ⟨kc, sf, sg, sc, qt, qv, qg, qc, on, lo, kt, kv, rfl, rfl, hS, hQ, hK⟩ := I
  unfold wpX_matches
  refine tx_isFilter v1 ?_
  by_cases z : tb_F v1 = true
  · refine br_f (tb_b_ne z) (tx_isTopic v2 ?_)
    by_cases y : tb_T v2 = true
    · refine br_f (tb_b_ne y) (tx_cov (tb_F_ok z) (tb_T_ok y) ?_)
      by_cases w : tb_Ci v1 v2 = true
      · refine br_f (tb_b_ne w) ?_
        unfold wpY_matches
        exact ty_isFilter v1 (br_f (tb_b_ne z) (ty_isTopic v2 (br_f (tb_b_ne y) (ty_fit (tb_F_ok z) (tb_T_ok y) (br_f (tb_b_ne w) ⟨rfl, R⟩)))))
      · refine br_t (tb_b_eq w) ?_
        unfold wpY_matches
        exact ty_isFilter v1 (br_f (tb_b_ne z) (ty_isTopic v2 (br_f (tb_b_ne y) (ty_fit (tb_F_ok z) (tb_T_ok y) (br_t (tb_b_eq w) ⟨rfl, R⟩)))))
    · refine br_t (tb_b_eq y) ?_
      unfold wpY_matches
      exact ty_isFilter v1 (br_f (tb_b_ne z) (ty_isTopic v2 (br_t (tb_b_eq y) ⟨rfl, R⟩)))
  · refine br_t (tb_b_eq z) ?_
    unfold wpY_matches
    exact ty_isFilter v1 (br_t (tb_b_eq z) ⟨rfl, R⟩)
theorem i_vc_subscriptions {k : Nat} {u : SX} {v : SY} (I : i_Rel k u v) (hk : k + 4 ≤ 2048) (v1 : Int32) : wpX_subscriptions (fun r => wpY_subscriptions (fun r' => r' = r ∧ i_Rel (k + 4) u v) v v1) u v1 := by
  have R := i_up I
  obtain ⟨kc, sf, sg, sc, qt, qv, qg, qc, on, lo, kt, kv, rfl, rfl, hS, hQ, hK⟩ := I
  unfold wpX_subscriptions
  rcases tb_cl v1 with hb | ⟨c, hc, rfl⟩
  · refine tx_cl0 hb (br_t rfl ?_)
    unfold wpY_subscriptions
    exact ty_cl0 hb (br_t rfl ⟨rfl, R⟩)
  · have hv : vp_in (nI c) 4 := vp_in_nI hc (by decide)
    refine tx_cl1 hc (br_f tb_n10 ⟨hv, ?_⟩)
    unfold wpY_subscriptions
    exact ty_cl1 hc (br_f tb_n10 ⟨hv, rfl, R⟩)
theorem i_vc_waiting {k : Nat} {u : SX} {v : SY} (I : i_Rel k u v) (hk : k + 4 ≤ 2048) (v1 : Int32) : wpX_waiting (fun r => wpY_waiting (fun r' => r' = r ∧ i_Rel (k + 4) u v) v v1) u v1 := by
  have R := i_up I
  obtain ⟨kc, sf, sg, sc, qt, qv, qg, qc, on, lo, kt, kv, rfl, rfl, hS, hQ, hK⟩ := I
  unfold wpX_waiting
  rcases tb_cl v1 with hb | ⟨c, hc, rfl⟩
  · refine tx_cl0 hb (br_t rfl ?_)
    unfold wpY_waiting
    exact ty_cl0 hb (br_t rfl ⟨rfl, R⟩)
  · have hv : vp_in (nI c) 4 := vp_in_nI hc (by decide)
    refine tx_cl1 hc (br_f tb_n10 ⟨hv, ?_⟩)
    unfold wpY_waiting
    exact ty_cl1 hc (br_f tb_n10 ⟨hv, rfl, R⟩)
theorem i_vc_lost {k : Nat} {u : SX} {v : SY} (I : i_Rel k u v) (hk : k + 4 ≤ 2048) (v1 : Int32) : wpX_lost (fun r => wpY_lost (fun r' => r' = r ∧ i_Rel (k + 4) u v) v v1) u v1 := by
  have R := i_up I
  obtain ⟨kc, sf, sg, sc, qt, qv, qg, qc, on, lo, kt, kv, rfl, rfl, hS, hQ, hK⟩ := I
  unfold wpX_lost
  rcases tb_cl v1 with hb | ⟨c, hc, rfl⟩
  · refine tx_cl0 hb (br_t rfl ?_)
    unfold wpY_lost
    exact ty_cl0 hb (br_t rfl ⟨rfl, R⟩)
  · have hv : vp_in (nI c) 4 := vp_in_nI hc (by decide)
    refine tx_cl1 hc (br_f tb_n10 ⟨hv, ?_⟩)
    unfold wpY_lost
    exact ty_cl1 hc (br_f tb_n10 ⟨hv, rfl, R⟩)
theorem i_vc_connect {k : Nat} {u : SX} {v : SY} (I : i_Rel k u v) (hk : k + 4 ≤ 2048) (v1 : Int32) (v2 : Int32) : wpX_connect (fun r u' => wpY_connect (fun r' v' => r' = r ∧ i_Rel (k + 4) u' v') v v1 v2) u v1 v2 := by
  have R := i_up I
  obtain ⟨kc, sf, sg, sc, qt, qv, qg, qc, on, lo, kt, kv, rfl, rfl, hS, hQ, hK⟩ := I
  unfold wpX_connect
  rcases tb_cl v1 with hb | ⟨c, hc, rfl⟩
  · refine tx_cl0 hb (br_t rfl ?_)
    unfold wpY_connect
    exact ty_cl0 hb (br_t rfl ⟨rfl, R⟩)
  · have hv : vp_in (nI c) 4 := vp_in_nI hc (by decide)
    refine tx_cl1 hc (br_f tb_n10 ⟨hv, ?_⟩)
    unfold wpY_connect
    by_cases z : on (nI c).toNatClampNeg = 0
    · by_cases y : v2 = 0
      · exact br_t z (br_t y ⟨hv, nm_e (ty_cl1 hc (br_f tb_n10 ⟨hv, br_t z (br_t y ⟨hv, nm_e ⟨rfl, tb_mk hS hQ hK⟩⟩)⟩))⟩)
      · exact br_t z (br_f y ⟨hv, nm_e (ty_cl1 hc (br_f tb_n10 ⟨hv, br_t z (br_f y ⟨hv, nm_e ⟨rfl, tb_mk hS hQ hK⟩⟩)⟩))⟩)
    · by_cases y : v2 = 0
      · exact br_f z (br_t y ⟨hv, nm_e (ty_cl1 hc (br_f tb_n10 ⟨hv, br_f z (br_t y ⟨hv, nm_e ⟨rfl, tb_mk hS hQ hK⟩⟩)⟩))⟩)
      · exact br_f z (br_f y ⟨hv, nm_e (ty_cl1 hc (br_f tb_n10 ⟨hv, br_f z (br_f y ⟨hv, nm_e ⟨rfl, tb_mk hS hQ hK⟩⟩)⟩))⟩)
theorem i_vc_firstTopic {k : Nat} {u : SX} {v : SY} (I : i_Rel k u v) (hk : k + 4 ≤ 2048) (v1 : Int32) : wpX_firstTopic (fun r => wpY_firstTopic (fun r' => r' = r ∧ i_Rel (k + 4) u v) v v1) u v1 := by
  have R := i_up I
  obtain ⟨kc, sf, sg, sc, qt, qv, qg, qc, on, lo, kt, kv, rfl, rfl, hS, hQ, hK⟩ := I
  unfold wpX_firstTopic
  rcases tb_cl v1 with hb | ⟨c, hc, rfl⟩
  · refine tx_cl0 hb (br_t rfl ?_)
    unfold wpY_firstTopic
    exact ty_cl0 hb (br_t rfl ⟨rfl, R⟩)
  · have hv : vp_in (nI c) 4 := vp_in_nI hc (by decide)
    obtain ⟨m, hm, em⟩ := hQ c hc
    have hv2 : vp_in (nI (12 * c)) 48 := vp_in_nI (by omega) (by decide)
    refine tx_cl1 hc (br_f tb_n10 ⟨hv, ?_⟩)
    rw [nI_clamp (n := c) (by omega), em, tb_c12]
    unfold wpY_firstTopic
    by_cases z : m = 0
    · refine br_t (by rw [z]; exact nI_le (Nat.le_refl 0) (by decide)) (ty_cl1 hc (br_f tb_n10 ⟨hv, ?_⟩))
      rw [nI_clamp (n := c) (by omega), em, z]
      exact br_t rfl ⟨rfl, R⟩
    · refine br_f (nI_nle (by omega) (by omega)) ⟨hv2, ty_cl1 hc (br_f tb_n10 ⟨hv, ?_⟩)⟩
      rw [nI_clamp (n := c) (by omega), em, tb_12c]
      exact br_f (nI_ne0 (by omega) (by omega)) ⟨hv2, rfl, R⟩
theorem i_vc_firstGrade {k : Nat} {u : SX} {v : SY} (I : i_Rel k u v) (hk : k + 4 ≤ 2048) (v1 : Int32) : wpX_firstGrade (fun r => wpY_firstGrade (fun r' => r' = r ∧ i_Rel (k + 4) u v) v v1) u v1 := by
  have R := i_up I
  obtain ⟨kc, sf, sg, sc, qt, qv, qg, qc, on, lo, kt, kv, rfl, rfl, hS, hQ, hK⟩ := I
  unfold wpX_firstGrade
  rcases tb_cl v1 with hb | ⟨c, hc, rfl⟩
  · refine tx_cl0 hb (br_t rfl ?_)
    unfold wpY_firstGrade
    exact ty_cl0 hb (br_t rfl ⟨rfl, R⟩)
  · have hv : vp_in (nI c) 4 := vp_in_nI hc (by decide)
    obtain ⟨m, hm, em⟩ := hQ c hc
    have hv2 : vp_in (nI (12 * c)) 48 := vp_in_nI (by omega) (by decide)
    refine tx_cl1 hc (br_f tb_n10 ⟨hv, ?_⟩)
    rw [nI_clamp (n := c) (by omega), em, tb_c12]
    unfold wpY_firstGrade
    by_cases z : m = 0
    · refine br_t (by rw [z]; exact nI_le (Nat.le_refl 0) (by decide)) (ty_cl1 hc (br_f tb_n10 ⟨hv, ?_⟩))
      rw [nI_clamp (n := c) (by omega), em, z]
      exact br_t rfl ⟨rfl, R⟩
    · refine br_f (nI_nle (by omega) (by omega)) ⟨hv2, ty_cl1 hc (br_f tb_n10 ⟨hv, ?_⟩)⟩
      rw [nI_clamp (n := c) (by omega), em, tb_12c]
      exact br_f (nI_ne0 (by omega) (by omega)) ⟨hv2, rfl, R⟩
end
section
theorem i_vc_kept {k : Nat} {u : SX} {v : SY} (I : i_Rel k u v) (hk : k + 4 ≤ 2048) (v1 : Int32) : wpX_kept (fun r => wpY_kept (fun r' => r' = r ∧ i_Rel (k + 4) u v) v v1) u v1 := by
  have R := i_up I
  obtain ⟨kc, sf, sg, sc, qt, qv, qg, qc, on, lo, kt, kv, rfl, rfl, hS, hQ, hK⟩ := I
  obtain ⟨km, hkm, rfl, hkt, hks⟩ := hK
  unfold wpX_kept
  refine tx_isFilter v1 ?_
  by_cases z : tb_F v1 = true
  · refine br_f (tb_b_ne z) ⟨km + 1, tx_kc_l (kc := nI km) (tb_F_ok z) hkm hkt km 0 0 (by omega) ?_⟩
    unfold wpY_kept
    exact ty_isFilter v1 (br_f (tb_b_ne z) ⟨km + 1, ty_kc_l (kc := nI km) (tb_F_ok z) hkm hkt km 0 0 (by omega) ⟨rfl, R⟩⟩)
  · refine br_t (tb_b_eq z) ?_
    unfold wpY_kept
    exact ty_isFilter v1 (br_t (tb_b_eq z) ⟨rfl, R⟩)
theorem i_vc_reached {k : Nat} {u : SX} {v : SY} (I : i_Rel k u v) (hk : k + 4 ≤ 2048) (v1 : Int32) : wpX_reached (fun r => wpY_reached (fun r' => r' = r ∧ i_Rel (k + 4) u v) v v1) u v1 := by
  have R := i_up I
  obtain ⟨kc, sf, sg, sc, qt, qv, qg, qc, on, lo, kt, kv, rfl, rfl, hS, hQ, hK⟩ := I
  unfold wpX_reached
  refine tx_isTopic v1 ?_
  by_cases z : tb_T v1 = true
  · obtain ⟨t, ht, rfl⟩ := tb_T_ok z
    refine br_f (tb_b_ne z) ⟨5, tx_rc_l ht hS 4 0 0 rfl ?_⟩
    unfold wpY_reached
    exact ty_isTopic (nI t) (br_f (tb_b_ne z) ⟨5, ty_rc_l ht hS 4 0 0 rfl ⟨rfl, R⟩⟩)
  · refine br_t (tb_b_eq z) ?_
    unfold wpY_reached
    exact ty_isTopic v1 (br_t (tb_b_eq z) ⟨rfl, R⟩)
theorem i_vc_breadth {k : Nat} {u : SX} {v : SY} (I : i_Rel k u v) (hk : k + 4 ≤ 2048) (v1 : Int32) : wpX_breadth (fun r => wpY_breadth (fun r' => r' = r ∧ i_Rel (k + 4) u v) v v1) u v1 := by
  have R := i_up I
  obtain ⟨kc, sf, sg, sc, qt, qv, qg, qc, on, lo, kt, kv, rfl, rfl, hS, hQ, hK⟩ := I
  unfold wpX_breadth
  rcases tb_cl v1 with hb | ⟨c, hc, rfl⟩
  · refine tx_cl0 hb (br_t rfl ?_)
    unfold wpY_breadth
    exact ty_cl0 hb (br_t rfl ⟨rfl, R⟩)
  · have hv : vp_in (nI c) 4 := vp_in_nI hc (by decide)
    obtain ⟨m, hm, em, hi⟩ := hS c hc
    refine tx_cl1 hc (br_f tb_n10 ⟨4095 + 1, tx_wd_l hc hS 4095 1 0 (by omega) ?_⟩)
    unfold wpY_breadth
    refine ty_cl1 hc (br_f tb_n10 ?_)
    by_cases z : m = 0
    · have e0 : sc c = 0 := by
        rw [em, z]
        rfl
      rw [tb_kc_f (fun i => tb_wd_0 e0 i)]
      refine ⟨1, br_f (by decide) ⟨hv, ?_⟩⟩
      rw [nI_clamp (n := c) (by omega), e0]
      exact br_t (by decide) ⟨rfl, R⟩
    · exact ⟨4095 + 1, ty_wd_l hc hS em (by omega) hm 4095 1 0 (by omega) ⟨rfl, R⟩⟩
theorem i_vc_take {k : Nat} {u : SX} {v : SY} (I : i_Rel k u v) (hk : k + 4 ≤ 2048) (v1 : Int32) : wpX_take (fun r u' => wpY_take (fun r' v' => r' = r ∧ i_Rel (k + 4) u' v') v v1) u v1 := by
  have R := i_up I
  obtain ⟨kc, sf, sg, sc, qt, qv, qg, qc, on, lo, kt, kv, rfl, rfl, hS, hQ, hK⟩ := I
  unfold wpX_take
  rcases tb_cl v1 with hb | ⟨c, hc, rfl⟩
  · refine tx_cl0 hb (br_t rfl ?_)
    unfold wpY_take
    exact ty_cl0 hb (br_t rfl ⟨rfl, R⟩)
  · have hv : vp_in (nI c) 4 := vp_in_nI hc (by decide)
    obtain ⟨m, hm, em⟩ := hQ c hc
    have hv2 : vp_in (nI (12 * c)) 48 := vp_in_nI (by omega) (by decide)
    refine tx_cl1 hc (br_f tb_n10 ⟨hv, ?_⟩)
    rw [nI_clamp (n := c) (by omega), em, tb_c12, nI_clamp (n := 12 * c) (by omega)]
    by_cases z : on c = 0
    · refine br_t z ?_
      unfold wpY_take
      refine ty_cl1 hc (br_f tb_n10 ⟨hv, ?_⟩)
      rw [nI_clamp (n := c) (by omega)]
      exact br_t z ⟨rfl, R⟩
    · refine br_f z ⟨hv, ?_⟩
      by_cases y : m = 0
      · refine br_t (by rw [y]; rfl) ?_
        unfold wpY_take
        refine ty_cl1 hc (br_f tb_n10 ⟨hv, ?_⟩)
        rw [nI_clamp (n := c) (by omega), em]
        exact br_f z ⟨hv, br_t (by rw [y]; rfl) ⟨rfl, R⟩⟩
      · have hne : ¬ nI m = 0 := nI_ne0 (by omega) (by omega)
        refine br_f hne ⟨hv2, nm_e ?_⟩
        unfold wpX_removeFirst
        refine nm_r (tb_c12 c) ⟨hv, nm_r (e' := nI (12 * c + m - 1)) ?_ ⟨m - 1 + 1, tx_rf_l hc (by omega) hm em (m - 1) (12 * c) _ _ _ (by omega) ?_⟩⟩
        · rw [nI_clamp (n := c) (by omega), em, nI_add]
          exact pk_sub (b := 1) (by omega)
        · show wpY_take _ _ _
          unfold wpY_take
          refine ty_cl1 hc (br_f tb_n10 ⟨hv, ?_⟩)
          rw [nI_clamp (n := c) (by omega), em, tb_12c, nI_clamp (n := 12 * c) (by omega)]
          refine br_f z ⟨hv, br_f hne ⟨hv2, nm_e ⟨hv, hv, nm_r (congrArg (upd qc c) (pk_sub (b := 1) (by omega))) (nm_e ⟨m - 1 + 1, ty_rf_l hc (by omega) pk_us (m - 1) (12 * c) _ _ _ (by omega) ⟨rfl, tb_mk hS (tb_IQ_u hQ (by omega)) hK⟩⟩)⟩⟩⟩
theorem i_vc_publish {k : Nat} {u : SX} {v : SY} (I : i_Rel k u v) (hk : k + 4 ≤ 2048) (v1 : Int32) (v2 : Int32) (v3 : Int32) : wpX_publish (fun r u' => wpY_publish (fun r' v' => r' = r ∧ i_Rel (k + 4) u' v') v v1 v2 v3) u v1 v2 v3 := by
  have R := i_up I
  obtain ⟨kc, sf, sg, sc, qt, qv, qg, qc, on, lo, kt, kv, rfl, rfl, hS, hQ, hK⟩ := I
  unfold wpX_publish
  refine tx_isTopic v1 ?_
  by_cases z : tb_T v1 = true
  · obtain ⟨t, ht, rfl⟩ := tb_T_ok z
    refine br_f (tb_b_ne z) ?_
    rcases tb_gd v3 with hg | ⟨g, hg, rfl⟩
    · refine tx_gd0 hg (br_t rfl ?_)
      unfold wpY_publish
      refine ty_isTopic (nI t) (br_f (tb_b_ne z) ?_)
      by_cases w : v3 < 0
      · exact br_t w ⟨rfl, R⟩
      · exact br_f w (br_f (Int32.not_le.mpr (hg.resolve_left w)) ⟨rfl, R⟩)
    · refine tx_gd1 hg (br_f tb_n10 ⟨5, tx_pb_l ht hS 4 0 0 (qt, qv, qg, qc, lo) rfl hQ ?_⟩)
      unfold wpY_publish
      exact ty_isTopic (nI t) (br_f (tb_b_ne z) (br_f (nI_pos (by omega)) (br_t (nI_le (b := 2) hg (by decide)) ⟨5, ty_pb_l ht hS 4 0 0 (qt, qv, qg, qc, lo) rfl hQ ⟨rfl, tb_mk hS (tb_pb_q 4 0 0 (qt, qv, qg, qc, lo) rfl hQ) hK⟩⟩)))
  · refine br_t (tb_b_eq z) ?_
    unfold wpY_publish
    exact ty_isTopic v1 (br_t (tb_b_eq z) ⟨rfl, R⟩)
end
section
theorem tx_s80 {post : Int32 → SX → Prop} {sf sg sc qt qv qg qc on lo kt kv : Nat → Int32} {c q km : Nat} {f g : Int32} (hc : c < 4) (hq : q < 20) (hf : tb_OK f) (hk : km ≤ 8) (hkt : ∀ i, i < km → tb_OK (kt i)) (hQ : tb_IQ qc)
    (hp : post (tb_sk on kt kv (fun i => tb_Ci f (kt i)) c (tb_mn g 1) km 0 0 (qt, qv, qg, qc, lo)).1 (nI km, sf, upd sg q g, sc, (tb_sk on kt kv (fun i => tb_Ci f (kt i)) c (tb_mn g 1) km 0 0 (qt, qv, qg, qc, lo)).2.1, (tb_sk on kt kv (fun i => tb_Ci f (kt i)) c (tb_mn g 1) km 0 0 (qt, qv, qg, qc, lo)).2.2.1, (tb_sk on kt kv (fun i => tb_Ci f (kt i)) c (tb_mn g 1) km 0 0 (qt, qv, qg, qc, lo)).2.2.2.1, (tb_sk on kt kv (fun i => tb_Ci f (kt i)) c (tb_mn g 1) km 0 0 (qt, qv, qg, qc, lo)).2.2.2.2.1, on, (tb_sk on kt kv (fun i => tb_Ci f (kt i)) c (tb_mn g 1) km 0 0 (qt, qv, qg, qc, lo)).2.2.2.2.2, kt, kv)) :
    wX_subscribe_80 post (nI c) f g (nI q) (nI km) sf sg sc qt qv qg qc on lo kt kv := by
  unfold wX_subscribe_80
  rw [nI_clamp (n := q) (by omega)]
  refine ⟨vp_in_nI hq (by decide), nm_e ?_⟩
  unfold wpX_sendKept
  exact tx_ls ⟨km + 1, tx_sk_l hc hf hk hkt km 0 0 (qt, qv, qg, qc, lo) (by omega) hQ hp⟩
theorem ty_s84 {post : Int32 → SY → Prop} {sf sg sc qt qv qg qc on lo kt kv : Nat → Int32} {c q km : Nat} {f g : Int32} (hc : c < 4) (hq : q < 20) (hf : tb_OK f) (hk : km ≤ 8) (hkt : ∀ i, i < km → tb_OK (kt i)) (hQ : tb_IQ qc)
    (hp : post (tb_sk on kt kv (fun i => tb_Ci f (kt i)) c (tb_mn g 1) km 0 0 (qt, qv, qg, qc, lo)).1 (nI km, upd sf q f, upd sg q g, sc, (tb_sk on kt kv (fun i => tb_Ci f (kt i)) c (tb_mn g 1) km 0 0 (qt, qv, qg, qc, lo)).2.1, (tb_sk on kt kv (fun i => tb_Ci f (kt i)) c (tb_mn g 1) km 0 0 (qt, qv, qg, qc, lo)).2.2.1, (tb_sk on kt kv (fun i => tb_Ci f (kt i)) c (tb_mn g 1) km 0 0 (qt, qv, qg, qc, lo)).2.2.2.1, (tb_sk on kt kv (fun i => tb_Ci f (kt i)) c (tb_mn g 1) km 0 0 (qt, qv, qg, qc, lo)).2.2.2.2.1, (tb_sk on kt kv (fun i => tb_Ci f (kt i)) c (tb_mn g 1) km 0 0 (qt, qv, qg, qc, lo)).2.2.2.2.2, on, kt, kv)) :
    wY_subscribe_84 post (nI c) f g (nI q) (nI km) sf sg sc qt qv qg qc lo on kt kv := by
  have hv : vp_in (nI q) 20 := vp_in_nI hq (by decide)
  unfold wY_subscribe_84
  rw [nI_clamp (n := q) (by omega)]
  exact ⟨hv, nm_e ⟨hv, nm_e ⟨km + 1, ty_sk_l hc hf hk hkt km 0 0 (qt, qv, qg, qc, lo) (by omega) hQ hp⟩⟩⟩
theorem i_vc_subscribe {k : Nat} {u : SX} {v : SY} (I : i_Rel k u v) (hk : k + 4 ≤ 2048) (v1 : Int32) (v2 : Int32) (v3 : Int32) : wpX_subscribe (fun r u' => wpY_subscribe (fun r' v' => r' = r ∧ i_Rel (k + 4) u' v') v v1 v2 v3) u v1 v2 v3 := by
  have R := i_up I
  obtain ⟨kc, sf, sg, sc, qt, qv, qg, qc, on, lo, kt, kv, rfl, rfl, hS, hQ, hK⟩ := I
  unfold wpX_subscribe
  rcases tb_cl v1 with hb | ⟨c, hc, rfl⟩
  · refine tx_cl0 hb (br_t rfl ?_)
    unfold wpY_subscribe
    exact ty_cl0 hb (br_t rfl ⟨rfl, R⟩)
  refine tx_cl1 hc (br_f tb_n10 (tx_isFilter v2 ?_))
  by_cases z : tb_F v2 = true
  · refine br_f (tb_b_ne z) ?_
    rcases tb_gd v3 with hg | ⟨g, hg, rfl⟩
    · refine tx_gd0 hg (br_t rfl ?_)
      unfold wpY_subscribe
      refine ty_cl1 hc (br_f tb_n10 (ty_isFilter v2 (br_f (tb_b_ne z) ?_)))
      by_cases w : v3 < 0
      · exact br_t w ⟨rfl, R⟩
      · exact br_f w (br_f (Int32.not_le.mpr (hg.resolve_left w)) ⟨rfl, R⟩)
    · obtain ⟨m, hm, em, hi⟩ := hS c hc
      obtain ⟨km, hkm, rfl, hkt, hks⟩ := hK
      have hK : tb_IK kt (nI km) := ⟨km, hkm, rfl, hkt, hks⟩
      have hv : vp_in (nI c) 4 := vp_in_nI hc (by decide)
      have hf := tb_F_ok z
      refine tx_gd1 hg (br_f tb_n10 (tx_find hc hm em ?_))
      rcases h : tb_fd sf v2 m (5 * c) with _ | q
      · refine br_t rfl ⟨hv, ?_⟩
        rw [nI_clamp (n := c) (by omega), em]
        refine pk_lt m 5 (fun y => ?_) (fun y => ?_)
        · refine ⟨hv, nm_r (e' := nI (5 * c + m)) (by rw [tb_c5, nI_add]) ⟨vp_in_nI (by omega) (by decide), nm_e ⟨hv, hv, nm_e ?_⟩⟩⟩
          rw [nI_clamp (n := 5 * c + m) (by omega)]
          refine tx_s80 hc (by omega) hf hkm hkt hQ ?_
          unfold wpY_subscribe
          refine ty_cl1 hc (br_f tb_n10 (ty_isFilter v2 (br_f (tb_b_ne z) (br_f (nI_pos (by omega)) (br_t (nI_le (b := 2) hg (by decide)) (ty_find hc hm em ?_))))))
          rw [h]
          refine br_t rfl ⟨hv, ?_⟩
          rw [nI_clamp (n := c) (by omega), em]
          refine br_f (fun w => absurd ((nI_eq (b := 5) (by omega) (by decide)).mp w) (by omega)) (br_t rfl ⟨hv, ?_⟩)
          rw [nI_clamp (n := c) (by omega), em]
          refine nm_r (e' := nI (5 * c + m)) (by rw [tb_5c, nI_add]) ⟨hv, hv, nm_e (ty_s84 hc (by omega) hf hkm hkt hQ ⟨rfl, ?_⟩)⟩
          obtain ⟨n, hn, rfl⟩ := hf
          rw [nI_1 m]
          exact tb_mk (tb_IS_new hS hc em y hn hg) (tb_sk_q hc km 0 0 (qt, qv, qg, qc, lo) hQ) hK
        · unfold wpY_subscribe
          refine ty_cl1 hc (br_f tb_n10 (ty_isFilter v2 (br_f (tb_b_ne z) (br_f (nI_pos (by omega)) (br_t (nI_le (b := 2) hg (by decide)) (ty_find hc hm em ?_))))))
          rw [h]
          refine br_t rfl ⟨hv, ?_⟩
          rw [nI_clamp (n := c) (by omega), em]
          exact br_t (by rw [show m = 5 by omega]; rfl) ⟨rfl, R⟩
      · obtain ⟨h1, h2, h3⟩ := tb_fd_some h
        refine br_f (tb_nm1 (by omega)) (tx_s80 hc (by omega) hf hkm hkt hQ ?_)
        unfold wpY_subscribe
        refine ty_cl1 hc (br_f tb_n10 (ty_isFilter v2 (br_f (tb_b_ne z) (br_f (nI_pos (by omega)) (br_t (nI_le (b := 2) hg (by decide)) (ty_find hc hm em ?_))))))
        rw [h]
        refine br_f (tb_nm4 (by omega)) (br_f (tb_nm4 (by omega)) (ty_s84 hc (by omega) hf hkm hkt hQ ⟨rfl, ?_⟩))
        rw [tb_uid h3]
        exact tb_mk (tb_IS_g hS hg) (tb_sk_q hc km 0 0 (qt, qv, qg, qc, lo) hQ) hK
  · refine br_t (tb_b_eq z) ?_
    unfold wpY_subscribe
    exact ty_cl1 hc (br_f tb_n10 (ty_isFilter v2 (br_t (tb_b_eq z) ⟨rfl, R⟩)))
theorem i_vc_unsubscribe {k : Nat} {u : SX} {v : SY} (I : i_Rel k u v) (hk : k + 4 ≤ 2048) (v1 : Int32) (v2 : Int32) : wpX_unsubscribe (fun r u' => wpY_unsubscribe (fun r' v' => r' = r ∧ i_Rel (k + 4) u' v') v v1 v2) u v1 v2 := by
  have R := i_up I
  obtain ⟨kc, sf, sg, sc, qt, qv, qg, qc, on, lo, kt, kv, rfl, rfl, hS, hQ, hK⟩ := I
  unfold wpX_unsubscribe
  rcases tb_cl v1 with hb | ⟨c, hc, rfl⟩
  · refine tx_cl0 hb (br_t rfl ?_)
    unfold wpY_unsubscribe
    exact ty_cl0 hb (br_t rfl ⟨rfl, R⟩)
  refine tx_cl1 hc (br_f tb_n10 (tx_isFilter v2 ?_))
  by_cases z : tb_F v2 = true
  · obtain ⟨m, hm, em, hi⟩ := hS c hc
    have hv : vp_in (nI c) 4 := vp_in_nI hc (by decide)
    refine br_f (tb_b_ne z) (tx_find hc hm em ?_)
    rcases h : tb_fd sf v2 m (5 * c) with _ | q
    · refine br_t rfl ?_
      unfold wpY_unsubscribe
      refine ty_cl1 hc (br_f tb_n10 (ty_isFilter v2 (br_f (tb_b_ne z) (ty_find hc hm em ?_))))
      rw [h]
      exact br_t rfl ⟨rfl, R⟩
    · obtain ⟨h1, h2, h3⟩ := tb_fd_some h
      have hvq : vp_in (nI q) 20 := vp_in_nI (by omega) (by decide)
      refine br_f (tb_nm1 (by omega)) ⟨hvq, nm_e ?_⟩
      unfold wpX_removeSubscription
      refine And.intro hv (nm_r (e' := nI (5 * c + m - 1)) ?_ ⟨5 * c + m - 1 - q + 1, tx_rs_l hc (by omega) hm em (5 * c + m - 1 - q) q _ _ (by omega) ?_⟩)
      · rw [nI_clamp (n := c) (by omega), em, tb_c5, nI_add]
        exact pk_sub (b := 1) (by omega)
      · show wpY_unsubscribe _ _ _ _
        unfold wpY_unsubscribe
        refine ty_cl1 hc (br_f tb_n10 (ty_isFilter v2 (br_f (tb_b_ne z) (ty_find hc hm em ?_))))
        rw [h]
        refine br_f (tb_nm4 (by omega)) ⟨hvq, nm_e ⟨hv, hv, ?_⟩⟩
        rw [nI_clamp (n := c) (by omega), em]
        exact nm_r (congrArg (upd sc c) (pk_sub (b := 1) (by omega))) ⟨5 * c + m - 1 - q + 1, ty_rs_l hc (by omega) pk_us (5 * c + m - 1 - q) q _ _ (by omega) ⟨rfl, tb_mk (tb_IS_rem hS hc em hm h1 h2) hQ hK⟩⟩
  · refine br_t (tb_b_eq z) ?_
    unfold wpY_unsubscribe
    exact ty_cl1 hc (br_f tb_n10 (ty_isFilter v2 (br_t (tb_b_eq z) ⟨rfl, R⟩)))
end
section
theorem tx_ik {post : SX → Prop} {sf sg sc qt qv qg qc on lo kt kv : Nat → Int32} {t v : Int32} {km p : Nat} (hpm : p ≤ km) (hk : km < 8) (h1 : ∀ j, j < p → kt j < t) (h2 : ∀ j, p ≤ j → j < km → t < kt j)
    (hp : post (nI (km + 1), sf, sg, sc, qt, qv, qg, qc, on, lo, upd (tb_su (km - p) p kt) p t, upd (tb_su (km - p) p kv) p v)) : wpX_insertKept post (nI km, sf, sg, sc, qt, qv, qg, qc, on, lo, kt, kv) t v := by
  rw [← nI_1 km] at hp
  have q := tx_ik_l (post := post) (p := p) (km - p) kt kv (by omega) h1 (fun j a b => h2 j a (by omega)) hp
  rw [show p + (km - p) = km by omega] at q
  exact Exists.intro (km - p + 1) q
theorem ty_ik {post : Int32 → SY → Prop} {sf sg sc qt qv qg qc on lo kt kv : Nat → Int32} {t v : Int32} {km p : Nat} (hpm : p ≤ km) (hk : km < 8)
    (hp : post 0 (nI (km + 1), sf, sg, sc, qt, qv, qg, qc, lo, on, upd (tb_su (km - p) p kt) p t, upd (tb_su (km - p) p kv) p v)) : wY_keep_43 post t v (nI p) (nI km) sf sg sc qt qv qg qc lo on kt kv := by
  rw [← nI_1 km] at hp
  have q := ty_ik_l (post := post) (p := p) (km - p) kt kv (by omega) hp
  rw [show p + (km - p) = km by omega] at q
  exact br_f (fun w => absurd ((nI_eq (b := 8) (by omega) (by decide)).mp w) (by omega)) (Exists.intro (km - p + 1) q)
theorem tb_ne_of_lt {a b : Int32} (h : a < b) : ¬ b = a := fun e => Int32.lt_irrefl (e ▸ h : a < a)
theorem i_vc_keep {k : Nat} {u : SX} {v : SY} (I : i_Rel k u v) (hk : k + 4 ≤ 2048) (v1 : Int32) (v2 : Int32) : wpX_keep (fun r u' => wpY_keep (fun r' v' => r' = r ∧ i_Rel (k + 4) u' v') v v1 v2) u v1 v2 := by
  have R := i_up I
  obtain ⟨kc, sf, sg, sc, qt, qv, qg, qc, on, lo, kt, kv, rfl, rfl, hS, hQ, hK⟩ := I
  unfold wpX_keep
  refine tx_isTopic v1 ?_
  by_cases z : tb_T v1 = true
  · obtain ⟨km, hkm, rfl, hkt, hks⟩ := hK
    have hK : tb_IK kt (nI km) := ⟨km, hkm, rfl, hkt, hks⟩
    refine br_f (tb_b_ne z) (tx_fk (kc := nI km) hkm ?_)
    rcases h : tb_fd kt v1 km 0 with _ | q
    · obtain ⟨hpm, h1, h2⟩ := tb_fp_none hks h
      refine br_t rfl (pk_lt km 8 (fun y => ?_) (fun y => ?_))
      · refine tx_ik hpm y h1 h2 ?_
        show wpY_keep _ _ _ _
        unfold wpY_keep
        refine ty_isTopic v1 (br_f (tb_b_ne z) (ty_kp (kc := nI km) hkm ?_))
        have hR : i_Rel (k + 4) (nI (km + 1), sf, sg, sc, qt, qv, qg, qc, on, lo, upd (tb_su (km - tb_pl kt v1 km 0) (tb_pl kt v1 km 0) kt) (tb_pl kt v1 km 0) v1, upd (tb_su (km - tb_pl kt v1 km 0) (tb_pl kt v1 km 0) kv) (tb_pl kt v1 km 0) v2) (nI (km + 1), sf, sg, sc, qt, qv, qg, qc, lo, on, upd (tb_su (km - tb_pl kt v1 km 0) (tb_pl kt v1 km 0) kt) (tb_pl kt v1 km 0) v1, upd (tb_su (km - tb_pl kt v1 km 0) (tb_pl kt v1 km 0) kv) (tb_pl kt v1 km 0) v2) := by
          refine tb_mk hS hQ ?_
          obtain ⟨n, hn, rfl⟩ := tb_T_ok z
          exact tb_IK_ins y hpm hkt hks hn h1 h2
        refine pk_le km (tb_pl kt v1 km 0) (fun _ => ty_ik hpm y ⟨rfl, hR⟩) (fun w => ⟨vp_in_nI (by omega) (by decide), ?_⟩)
        rw [nI_clamp (n := tb_pl kt v1 km 0) (by omega)]
        exact br_f (tb_ne_of_lt (h2 _ (Nat.le_refl _) w)) (ty_ik hpm y ⟨rfl, hR⟩)
      · unfold wpY_keep
        refine ty_isTopic v1 (br_f (tb_b_ne z) (ty_kp (kc := nI km) hkm ?_))
        have e8 : nI km = 8 := by
          rw [show km = 8 by omega]
          rfl
        refine pk_le km (tb_pl kt v1 km 0) (fun _ => br_t e8 ⟨rfl, R⟩) (fun w => ⟨vp_in_nI (by omega) (by decide), ?_⟩)
        rw [nI_clamp (n := tb_pl kt v1 km 0) (by omega)]
        exact br_f (tb_ne_of_lt (h2 _ (Nat.le_refl _) w)) (br_t e8 ⟨rfl, R⟩)
    · obtain ⟨h1, h2, h3⟩ := tb_fp_some hks h
      have hvq : vp_in (nI q) 8 := vp_in_nI (by omega) (by decide)
      refine br_f (tb_nm1 (by omega)) ⟨hvq, ?_⟩
      rw [show (tb_ov (-1) (some q)).toNatClampNeg = q from nI_clamp (by omega)]
      refine nm_e ?_
      unfold wpY_keep
      refine ty_isTopic v1 (br_f (tb_b_ne z) (ty_kp (kc := nI km) hkm ?_))
      rw [h1]
      refine br_f (nI_ge h2 (by omega)) ⟨hvq, ?_⟩
      rw [nI_clamp (n := q) (by omega)]
      exact br_t h3 ⟨hvq, nm_e ⟨rfl, tb_mk hS hQ hK⟩⟩
  · refine br_t (tb_b_eq z) ?_
    unfold wpY_keep
    exact ty_isTopic v1 (br_t (tb_b_eq z) ⟨rfl, R⟩)
theorem i_vc_forget {k : Nat} {u : SX} {v : SY} (I : i_Rel k u v) (hk : k + 4 ≤ 2048) (v1 : Int32) : wpX_forget (fun r u' => wpY_forget (fun r' v' => r' = r ∧ i_Rel (k + 4) u' v') v v1) u v1 := by
  have R := i_up I
  obtain ⟨kc, sf, sg, sc, qt, qv, qg, qc, on, lo, kt, kv, rfl, rfl, hS, hQ, hK⟩ := I
  unfold wpX_forget
  refine tx_isTopic v1 ?_
  by_cases z : tb_T v1 = true
  · obtain ⟨km, hkm, rfl, hkt, hks⟩ := hK
    refine br_f (tb_b_ne z) (tx_fk (kc := nI km) hkm ?_)
    rcases h : tb_fd kt v1 km 0 with _ | q
    · obtain ⟨hpm, h1, h2⟩ := tb_fp_none hks h
      refine br_t rfl ?_
      unfold wpY_forget
      refine ty_isTopic v1 (br_f (tb_b_ne z) (ty_kp (kc := nI km) hkm ?_))
      refine pk_eq (tb_pl kt v1 km 0) km (fun _ => ⟨rfl, R⟩) (fun w => ⟨vp_in_nI (by omega) (by decide), ?_⟩)
      rw [nI_clamp (n := tb_pl kt v1 km 0) (by omega)]
      exact br_f (tb_ne_of_lt (h2 _ (Nat.le_refl _) (by omega))) ⟨rfl, R⟩
    · obtain ⟨h1, h2, h3⟩ := tb_fp_some hks h
      have hvq : vp_in (nI q) 8 := vp_in_nI (by omega) (by decide)
      refine br_f (tb_nm1 (by omega)) ?_
      unfold wpX_removeKept
      refine Exists.intro (km - 1 - q + 1) (tx_rk_l (by omega) hkm (km - 1 - q) q _ _ (by omega) ?_)
      show wpY_forget _ _ _
      unfold wpY_forget
      refine ty_isTopic v1 (br_f (tb_b_ne z) (ty_kp (kc := nI km) hkm ?_))
      rw [h1]
      refine br_f (fun w => absurd ((nI_eq (by omega) (by omega)).mp w) (by omega)) ⟨hvq, ?_⟩
      rw [nI_clamp (n := q) (by omega)]
      exact br_t h3 (nm_r (pk_sub (b := 1) (by omega)) ⟨km - 1 - q + 1, ty_rk_l (by omega) (km - 1 - q) q _ _ (by omega) ⟨rfl, tb_mk hS hQ (tb_IK_rem hkm h2 hkt hks)⟩⟩)
  · refine br_t (tb_b_eq z) ?_
    unfold wpY_forget
    exact ty_isTopic v1 (br_t (tb_b_eq z) ⟨rfl, R⟩)
end

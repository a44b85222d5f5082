theorem tb_lm1 (n : Nat) : nI (tb_lv n) - 1 = nI (tb_lv n - 1) := pk_sub (b := 1) (tb_lv_1 n).1
theorem tx_levelCount {post : Int32 → Prop} {n : Nat} (h : tb_ok n) (hp : post (nI (tb_lv n))) : wpX_levelCount post (nI n) := by
  have hn := h.2
  have e4 : 512 ≤ n → tb_lv n = 4 := fun z => by
    unfold tb_lv
    rw [if_neg (by omega), if_neg (by omega), if_neg (by omega)]
  have e3 : 64 ≤ n → n < 512 → tb_lv n = 3 := fun z y => by
    unfold tb_lv
    rw [if_neg (by omega), if_neg (by omega), if_pos y]
  have e2 : 8 ≤ n → n < 64 → tb_lv n = 2 := fun z y => by
    unfold tb_lv
    rw [if_neg (by omega), if_pos y]
  have e1 : n < 8 → tb_lv n = 1 := fun y => by
    unfold tb_lv
    rw [if_pos y]
  refine pk_le 8 n (fun a => pk_le 64 n (fun b => pk_le 512 n (fun c => ?_) (fun c => ?_)) (fun b => ?_)) (fun a => ?_)
  · rw [e4 c] at hp
    exact hp
  · rw [e3 b c] at hp
    exact hp
  · rw [e2 a b] at hp
    exact hp
  · rw [e1 a] at hp
    exact hp
theorem tx_digitAt {post : Int32 → Prop} {n p : Nat} (h : tb_ok n) (hp : p < tb_lv n) (q : post (nI (tb_dg n p))) : wpX_digitAt post (nI n) (nI (tb_lv n)) (nI p) := by
  unfold wpX_digitAt
  rw [tb_dgx h hp]
  exact q
theorem tx_isTopic_l {post : Int32 → Prop} {n : Nat} (h : tb_ok n) : ∀ k i, i + k = tb_lv n → post (tb_b (tb_all (tb_tp n) k i)) → wX_isTopic_21 post (nI n) (nI (tb_lv n)) (k + 1) (nI i) := by
  have hl := tb_lv_1 n
  intro k
  induction k with
  | zero => exact fun i hi hp => br_t (nI_le (by omega) (by omega)) hp
  | succ k ih =>
    intro i hi hp
    have hd := tb_dg_lt n i
    refine br_f (nI_ge (by omega) (by omega)) (tx_digitAt h (by omega) ?_)
    refine pk_eq (tb_dg n i) 0 (fun z => ?_) (fun z => pk_le (tb_dg n i) 5 (fun y => nm_r (nI_1 i) (ih (i + 1) (by omega) ?_)) (fun y => ?_))
    · rw [tb_all_f (g := tb_tp n) (i := i) (decide_eq_false (fun w => w.1 z))] at hp
      exact hp
    · rw [tb_all_t (g := tb_tp n) (i := i) (decide_eq_true ⟨z, y⟩)] at hp
      exact hp
    · rw [tb_all_f (g := tb_tp n) (i := i) (decide_eq_false (fun w => absurd w.2 (by omega)))] at hp
      exact hp
theorem tb_gt1 {x : Int32} (h : 4095 < x) : ¬ x < 1 := fun w => absurd (Int32.lt_trans h w) (by decide)
theorem tx_isTopic {post : Int32 → Prop} (x : Int32) (hp : post (tb_b (tb_T x))) : wpX_isTopic post x := by
  rcases tb_cs x with z | z | ⟨n, hn, rfl⟩
  · rw [tb_T_1 z] at hp
    exact br_t z hp
  · rw [tb_T_2 z] at hp
    exact br_f (tb_gt1 z) (br_f (Int32.not_le.mpr z) hp)
  · rw [tb_T_n hn] at hp
    refine br_f (tb_ok1 hn) (br_t (nI_le (b := 4095) (Nat.le_of_lt_succ hn.2) (by decide)) (tx_levelCount hn ⟨tb_lv n + 1, ?_⟩))
    exact tx_isTopic_l hn (tb_lv n) 0 (by omega) hp
theorem tx_isFilter_l {post : Int32 → Prop} {n : Nat} (h : tb_ok n) : ∀ k i, i + k = tb_lv n → post (tb_b (tb_all (tb_fp n) k i)) → wX_isFilter_21 post (nI n) (nI (tb_lv n)) (k + 1) (nI i) := by
  have hl := tb_lv_1 n
  intro k
  induction k with
  | zero => exact fun i hi hp => br_t (nI_le (by omega) (by omega)) hp
  | succ k ih =>
    intro i hi hp
    have hd := tb_dg_lt n i
    refine br_f (nI_ge (by omega) (by omega)) (tx_digitAt h (by omega) ?_)
    refine pk_eq (tb_dg n i) 0 (fun z => ?_) (fun z => pk_eq (tb_dg n i) 7 (fun y => pk_le (tb_lv n - 1) i (fun w => nm_r (nI_1 i) (ih (i + 1) (by omega) ?_)) (fun w => ?_) (tb_lm1 n)) (fun y => nm_r (nI_1 i) (ih (i + 1) (by omega) ?_)))
    · rw [tb_all_f (g := tb_fp n) (i := i) (decide_eq_false (fun w => w.1 z))] at hp
      exact hp
    · rw [tb_all_t (g := tb_fp n) (i := i) (decide_eq_true ⟨z, fun v => absurd v.2 (by omega)⟩)] at hp
      exact hp
    · rw [tb_all_f (g := tb_fp n) (i := i) (decide_eq_false (fun v => v.2 ⟨y, w⟩))] at hp
      exact hp
    · rw [tb_all_t (g := tb_fp n) (i := i) (decide_eq_true ⟨z, fun v => y v.1⟩)] at hp
      exact hp
theorem tx_isFilter {post : Int32 → Prop} (x : Int32) (hp : post (tb_b (tb_F x))) : wpX_isFilter post x := by
  rcases tb_cs x with z | z | ⟨n, hn, rfl⟩
  · rw [tb_F_1 z] at hp
    exact br_t z hp
  · rw [tb_F_2 z] at hp
    exact br_f (tb_gt1 z) (br_f (Int32.not_le.mpr z) hp)
  · rw [tb_F_n hn] at hp
    refine br_f (tb_ok1 hn) (br_t (nI_le (b := 4095) (Nat.le_of_lt_succ hn.2) (by decide)) (tx_levelCount hn ⟨tb_lv n + 1, ?_⟩))
    exact tx_isFilter_l hn (tb_lv n) 0 (by omega) hp
theorem tb_C_a {f t : Nat} (z : f % 8 = 7) (y : tb_lv t < tb_lv f - 1) : tb_C f t = false := by
  unfold tb_C tb_cw
  rw [if_pos z, if_pos (Or.inl y)]
theorem tb_C_b {f t : Nat} (z : f % 8 = 7) (y : tb_lv f - 1 ≤ tb_lv t) : tb_C f t = tb_all (tb_cp f t) (tb_lv f - 1) 0 := by
  unfold tb_C tb_cw
  rw [if_pos z, if_neg (by omega)]
theorem tb_C_c {f t : Nat} (z : ¬ f % 8 = 7) (y : tb_lv t ≠ tb_lv f) : tb_C f t = false := by
  unfold tb_C tb_cw
  rw [if_neg z, if_pos (by omega)]
theorem tb_C_d {f t : Nat} (z : ¬ f % 8 = 7) (y : tb_lv t = tb_lv f) : tb_C f t = tb_all (tb_cp f t) (tb_lv f) 0 := by
  unfold tb_C tb_cw
  rw [if_neg z, if_neg (by omega)]
theorem tx_covers_l {post : Int32 → Prop} {f t : Nat} (hf : tb_ok f) (ht : tb_ok t) {m : Nat} (h1 : m ≤ tb_lv f) (h2 : m ≤ tb_lv t) : ∀ k i, i + k = m → post (tb_b (tb_all (tb_cp f t) k i)) → wX_covers_62 post (nI f) (nI t) (nI (tb_lv f)) (nI (tb_lv t)) (nI m) (k + 1) (nI i) := by
  have hl := tb_lv_1 f
  intro k
  induction k with
  | zero => exact fun i hi hp => br_t (nI_le (by omega) (by omega)) hp
  | succ k ih =>
    intro i hi hp
    have hd := tb_dg_lt f i
    have hd2 := tb_dg_lt t i
    refine br_f (nI_ge (by omega) (by omega)) (tx_digitAt hf (by omega) ?_)
    refine pk_eq (tb_dg f i) 6 (fun z => nm_r (nI_1 i) (ih (i + 1) (by omega) ?_)) (fun z => tx_digitAt ht (by omega) ?_)
    · rw [tb_all_t (g := tb_cp f t) (i := i) (decide_eq_true (Or.inl z))] at hp
      exact hp
    · refine pk_eq (tb_dg f i) (tb_dg t i) (fun y => nm_r (nI_1 i) (ih (i + 1) (by omega) ?_)) (fun y => ?_)
      · rw [tb_all_t (g := tb_cp f t) (i := i) (decide_eq_true (Or.inr y))] at hp
        exact hp
      · rw [tb_all_f (g := tb_cp f t) (i := i) (decide_eq_false (fun v => v.elim z y))] at hp
        exact hp
theorem tx_covers {post : Int32 → Prop} {f t : Nat} (hf : tb_ok f) (ht : tb_ok t) (hp : post (tb_b (tb_C f t))) : wpX_covers post (nI f) (nI t) := by
  have hl := tb_lv_1 f
  have hl2 := tb_lv_1 t
  unfold wpX_covers
  refine tx_levelCount hf (tx_levelCount ht ?_)
  rw [tb_m8 hf]
  refine pk_eq (f % 8) 7 (fun z => br_f (by decide) ?_) (fun z => br_t rfl ?_)
  · rw [tb_lm1 f]
    refine pk_lt (tb_lv t) (tb_lv f - 1) (fun y => ?_) (fun y => br_f (by decide) ⟨tb_lv f - 1 + 1, ?_⟩)
    · rw [tb_C_a z y] at hp
      exact hp
    · rw [tb_C_b z y] at hp
      exact tx_covers_l hf ht (by omega) y (tb_lv f - 1) 0 (by omega) hp
  · refine pk_lt (tb_lv t) (tb_lv f) (fun y => ?_) (fun y => br_t rfl (pk_le (tb_lv t) (tb_lv f) (fun w => ⟨tb_lv f + 1, ?_⟩) (fun w => ?_)))
    · rw [tb_C_c z (by omega)] at hp
      exact hp
    · rw [tb_C_d z (by omega)] at hp
      exact tx_covers_l hf ht (by omega) y (tb_lv f) 0 (by omega) hp
    · rw [tb_C_c z (by omega)] at hp
      exact hp
theorem ty_levels_l {post : Int32 → Prop} {kc : Int32} {sf sg sc qt qv qg qc on lo kt kv : Nat → Int32} : ∀ k n c, n < 8 ^ k → n < 2 ^ 31 → post (nI (c + tb_cn k n)) → wY_levels_4 post kc sf sg sc qt qv qg qc lo on kt kv (k + 1) (nI c) (nI n) := by
  intro k
  induction k with
  | zero =>
    intro n c h1 h2 hp
    have e : n = 0 := by
      rw [Nat.pow_zero] at h1
      omega
    subst e
    exact br_t (nI_le (Nat.le_refl 0) (by decide)) hp
  | succ k ih =>
    intro n c h1 h2 hp
    by_cases e : n = 0
    · subst e
      rw [tb_cn_0] at hp
      exact br_t (nI_le (Nat.le_refl 0) (by decide)) hp
    · rw [tb_cn_s k e] at hp
      refine br_f (nI_nle (by omega) h2) (nm_r (nI_1 c) ⟨by decide, nm_r (pk_div (d := 8) h2 (by decide) (by decide)) (ih (n / 8) (c + 1) ?_ (by omega) ?_)⟩)
      · refine Nat.div_lt_of_lt_mul ?_
        rw [Nat.pow_succ, Nat.mul_comm] at h1
        exact h1
      · rw [Nat.add_assoc]
        exact hp
theorem ty_levels_n {post : Int32 → Prop} {kc : Int32} {sf sg sc qt qv qg qc on lo kt kv : Nat → Int32} {n : Nat} (h : n < 2 ^ 31) (hp : post (nI (tb_cn 11 n))) : wpY_levels post (kc, sf, sg, sc, qt, qv, qg, qc, lo, on, kt, kv) (nI n) :=
  Exists.intro 12 (ty_levels_l 11 n 0 (Nat.lt_trans h (by decide)) h (by rw [Nat.zero_add]; exact hp))
theorem ty_levels_0 {post : Int32 → Prop} {kc : Int32} {sf sg sc qt qv qg qc on lo kt kv : Nat → Int32} {x : Int32} (h : x < 1) (hp : post 0) : wpY_levels post (kc, sf, sg, sc, qt, qv, qg, qc, lo, on, kt, kv) x := by
  refine Exists.intro 1 (br_t ?_ hp)
  refine Int32.not_lt.mp fun z => ?_
  obtain ⟨j, hj, rfl⟩ := nI_of (x := x) (fun w => Int32.lt_irrefl (Int32.lt_trans w z))
  have h0 : 0 < j := (nI_ltI (a := 0) (by decide) hj).mp z
  have h1 : j < 1 := (nI_ltI (b := 1) hj (by decide)).mp h
  omega
theorem ty_level_l {post : Int32 → Prop} {kc : Int32} {sf sg sc qt qv qg qc on lo kt kv : Nat → Int32} {i : Nat} : ∀ d m, m < 2 ^ 31 → i + d < 2 ^ 31 → post (nI (m / 8 ^ d % 8) - 1) → wY_level_14 post (nI i) kc sf sg sc qt qv qg qc lo on kt kv (d + 1) (nI m) (nI (i + d)) := by
  intro d
  induction d with
  | zero =>
    intro m h1 h2 hp
    rw [Nat.pow_zero, Nat.div_one] at hp
    refine br_t (nI_le (Nat.le_refl _) h2) ⟨by decide, ?_⟩
    rw [show nI m - nI m / 8 * 8 = nI (m % 8) from pk_rem (d := 8) h1 (by decide) (by decide)]
    exact hp
  | succ d ih =>
    intro m h1 h2 hp
    refine br_f (nI_ge (by omega) h2) ⟨by decide, nm_r (pk_div (d := 8) h1 (by decide) (by decide)) (nm_r (pk_m1 (i + d)) (ih (m / 8) (by omega) (by omega) ?_))⟩
    rw [Nat.div_div_eq_div_mul, ← Nat.pow_succ']
    exact hp
theorem ty_level {post : Int32 → Prop} {kc : Int32} {sf sg sc qt qv qg qc on lo kt kv : Nat → Int32} {n i : Nat} (h : tb_ok n) (hi : i < tb_lv n) (hp : post (nI (tb_dg n i) - 1)) : wpY_level post (kc, sf, sg, sc, qt, qv, qg, qc, lo, on, kt, kv) (nI n) (nI i) := by
  have hl := tb_lv_1 n
  unfold wpY_level
  refine ty_levels_n (tb_okl h) ?_
  rw [tb_cn_lv h]
  refine nm_r (tb_lm1 n) ⟨tb_lv n - 1 - i + 1, ?_⟩
  have q := ty_level_l (post := post) (kc := kc) (sf := sf) (sg := sg) (sc := sc) (qt := qt) (qv := qv) (qg := qg) (qc := qc) (on := on) (lo := lo) (kt := kt) (kv := kv) (i := i) (tb_lv n - 1 - i) n (tb_okl h) (by omega) hp
  rw [show i + (tb_lv n - 1 - i) = tb_lv n - 1 by omega] at q
  exact q
theorem tb_cs2 {x : Int32} (h : 4095 < x) : ∃ n, 4096 ≤ n ∧ n < 2 ^ 31 ∧ x = nI n := by
  obtain ⟨j, hj, rfl⟩ := nI_of (x := x) (fun w => absurd (Int32.lt_trans h w) (by decide))
  exact ⟨j, (nI_ltI (a := 4095) (by decide) hj).mp h, hj, rfl⟩
theorem ty_isTopic_l {post : Int32 → Prop} {kc : Int32} {sf sg sc qt qv qg qc on lo kt kv : Nat → Int32} {n : Nat} (h : tb_ok n) : ∀ k i, i + k = tb_lv n → post (tb_b (tb_all (tb_tp n) k i)) → wY_isTopic_20 post (nI n) (nI (tb_lv n)) kc sf sg sc qt qv qg qc lo on kt kv (k + 1) (nI i) := by
  have hl := tb_lv_1 n
  intro k
  induction k with
  | zero => exact fun i hi hp => br_t (nI_le (by omega) (by omega)) hp
  | succ k ih =>
    intro i hi hp
    have hd := tb_dg_lt n i
    refine br_f (nI_ge (by omega) (by omega)) (ty_level h (by omega) ?_)
    by_cases z : tb_dg n i = 0
    · rw [tb_all_f (g := tb_tp n) (i := i) (decide_eq_false (fun w => w.1 z))] at hp
      exact br_t ((tb_d_neg _ hd).mpr z) hp
    · refine br_f (fun w => z ((tb_d_neg _ hd).mp w)) ?_
      by_cases y : tb_dg n i ≤ 5
      · rw [tb_all_t (g := tb_tp n) (i := i) (decide_eq_true ⟨z, y⟩)] at hp
        exact br_t ((tb_d_le4 _ hd).mpr y) (nm_r (nI_1 i) (ih (i + 1) (by omega) hp))
      · rw [tb_all_f (g := tb_tp n) (i := i) (decide_eq_false (fun w => y w.2))] at hp
        exact br_f (fun w => y ((tb_d_le4 _ hd).mp w)) hp
theorem ty_isTopic {post : Int32 → Prop} {kc : Int32} {sf sg sc qt qv qg qc on lo kt kv : Nat → Int32} (x : Int32) (hp : post (tb_b (tb_T x))) : wpY_isTopic post (kc, sf, sg, sc, qt, qv, qg, qc, lo, on, kt, kv) x := by
  unfold wpY_isTopic
  rcases tb_cs x with z | z | ⟨n, hn, rfl⟩
  · rw [tb_T_1 z] at hp
    exact ty_levels_0 z (br_t z hp)
  · rw [tb_T_2 z] at hp
    obtain ⟨n, h1, h2, rfl⟩ := tb_cs2 z
    have h3 := tb_cn_big h1
    have h4 := tb_cn_le 11 n
    exact ty_levels_n h2 (br_f (tb_gt1 z) (br_f (nI_ge (a := 4) h3 (by omega)) hp))
  · rw [tb_T_n hn] at hp
    have hl := tb_lv_1 n
    refine ty_levels_n (tb_okl hn) ?_
    rw [tb_cn_lv hn]
    exact br_f (tb_ok1 hn) (br_t (nI_le (b := 4) hl.2 (by decide)) ⟨tb_lv n + 1, ty_isTopic_l hn (tb_lv n) 0 (by omega) hp⟩)
theorem ty_isFilter_l {post : Int32 → Prop} {kc : Int32} {sf sg sc qt qv qg qc on lo kt kv : Nat → Int32} {n : Nat} (h : tb_ok n) : ∀ k i, i + k = tb_lv n → post (tb_b (tb_all (tb_fp n) k i)) → wY_isFilter_20 post (nI n) (nI (tb_lv n)) kc sf sg sc qt qv qg qc lo on kt kv (k + 1) (nI i) := by
  have hl := tb_lv_1 n
  intro k
  induction k with
  | zero => exact fun i hi hp => br_t (nI_le (by omega) (by omega)) hp
  | succ k ih =>
    intro i hi hp
    have hd := tb_dg_lt n i
    refine br_f (nI_ge (by omega) (by omega)) (ty_level h (by omega) ?_)
    by_cases z : tb_dg n i = 0
    · rw [tb_all_f (g := tb_fp n) (i := i) (decide_eq_false (fun w => w.1 z))] at hp
      exact br_t ((tb_d_neg _ hd).mpr z) hp
    · refine br_f (fun w => z ((tb_d_neg _ hd).mp w)) ?_
      by_cases y : tb_dg n i = 7
      · refine br_t ((tb_d_6 _ hd).mpr y) (pk_le (tb_lv n - 1) i (fun w => nm_r (nI_1 i) (ih (i + 1) (by omega) ?_)) (fun w => ?_) (tb_lm1 n))
        · rw [tb_all_t (g := tb_fp n) (i := i) (decide_eq_true ⟨z, fun v => absurd v.2 (by omega)⟩)] at hp
          exact hp
        · rw [tb_all_f (g := tb_fp n) (i := i) (decide_eq_false (fun v => v.2 ⟨y, w⟩))] at hp
          exact hp
      · rw [tb_all_t (g := tb_fp n) (i := i) (decide_eq_true ⟨z, fun v => y v.1⟩)] at hp
        exact br_f (fun w => y ((tb_d_6 _ hd).mp w)) (nm_r (nI_1 i) (ih (i + 1) (by omega) hp))
theorem ty_isFilter {post : Int32 → Prop} {kc : Int32} {sf sg sc qt qv qg qc on lo kt kv : Nat → Int32} (x : Int32) (hp : post (tb_b (tb_F x))) : wpY_isFilter post (kc, sf, sg, sc, qt, qv, qg, qc, lo, on, kt, kv) x := by
  unfold wpY_isFilter
  rcases tb_cs x with z | z | ⟨n, hn, rfl⟩
  · rw [tb_F_1 z] at hp
    exact ty_levels_0 z (br_t z hp)
  · rw [tb_F_2 z] at hp
    obtain ⟨n, h1, h2, rfl⟩ := tb_cs2 z
    have h3 := tb_cn_big h1
    have h4 := tb_cn_le 11 n
    exact ty_levels_n h2 (br_f (tb_gt1 z) (br_f (nI_ge (a := 4) h3 (by omega)) hp))
  · rw [tb_F_n hn] at hp
    have hl := tb_lv_1 n
    refine ty_levels_n (tb_okl hn) ?_
    rw [tb_cn_lv hn]
    exact br_f (tb_ok1 hn) (br_t (nI_le (b := 4) hl.2 (by decide)) ⟨tb_lv n + 1, ty_isFilter_l hn (tb_lv n) 0 (by omega) hp⟩)
theorem ty_fits_l {post : Int32 → Prop} {kc : Int32} {sf sg sc qt qv qg qc on lo kt kv : Nat → Int32} {f t : Nat} (hf : tb_ok f) (ht : tb_ok t) {m : Nat} (h1 : m ≤ tb_lv f) (h2 : m ≤ tb_lv t) : ∀ k i, i + k = m → post (tb_b (tb_all (tb_cp f t) k i)) → wY_fits_74 post (nI f) (nI t) (nI m) kc sf sg sc qt qv qg qc lo on kt kv (k + 1) (nI i) := by
  have hl := tb_lv_1 f
  intro k
  induction k with
  | zero => exact fun i hi hp => br_t (nI_le (by omega) (by omega)) hp
  | succ k ih =>
    intro i hi hp
    have hd := tb_dg_lt f i
    have hd2 := tb_dg_lt t i
    refine br_f (nI_ge (by omega) (by omega)) (ty_level hf (by omega) ?_)
    by_cases z : tb_dg f i = 6
    · rw [tb_all_t (g := tb_cp f t) (i := i) (decide_eq_true (Or.inl z))] at hp
      exact br_t ((tb_d_5 _ hd).mpr z) (nm_r (nI_1 i) (ih (i + 1) (by omega) hp))
    · refine br_f (fun w => z ((tb_d_5 _ hd).mp w)) (ty_level ht (by omega) ?_)
      by_cases y : tb_dg f i = tb_dg t i
      · rw [tb_all_t (g := tb_cp f t) (i := i) (decide_eq_true (Or.inr y))] at hp
        exact br_t ((tb_d_eq _ hd _ hd2).mpr y) (nm_r (nI_1 i) (ih (i + 1) (by omega) hp))
      · rw [tb_all_f (g := tb_cp f t) (i := i) (decide_eq_false (fun v => v.elim z y))] at hp
        exact br_f (fun w => y ((tb_d_eq _ hd _ hd2).mp w)) hp
theorem ty_fits {post : Int32 → Prop} {kc : Int32} {sf sg sc qt qv qg qc on lo kt kv : Nat → Int32} {f t : Nat} (hf : tb_ok f) (ht : tb_ok t) (hp : post (tb_b (tb_C f t))) : wpY_fits post (kc, sf, sg, sc, qt, qv, qg, qc, lo, on, kt, kv) (nI f) (nI t) := by
  have hl := tb_lv_1 f
  have hl2 := tb_lv_1 t
  unfold wpY_fits
  refine ty_levels_n (tb_okl hf) ?_
  rw [tb_cn_lv hf]
  refine ty_levels_n (tb_okl ht) ?_
  rw [tb_cn_lv ht, tb_lm1 f]
  refine ty_level hf (by omega) ?_
  rw [tb_dg_last f]
  have hd : f % 8 < 8 := Nat.mod_lt _ (by decide)
  by_cases z : f % 8 = 7
  · refine br_t ((tb_d_6 _ hd).mpr z) (br_f (by decide) (br_f (by decide) ?_))
    rw [tb_lm1 f]
    refine pk_le (tb_lv f - 1) (tb_lv t) (fun y => ⟨tb_lv f - 1 + 1, ?_⟩) (fun y => ?_)
    · rw [tb_C_b z y] at hp
      exact ty_fits_l hf ht (by omega) y (tb_lv f - 1) 0 (by omega) hp
    · rw [tb_C_a z y] at hp
      exact hp
  · refine br_f (fun w => z ((tb_d_6 _ hd).mp w)) (br_t rfl (br_t rfl (pk_eq (tb_lv t) (tb_lv f) (fun y => ⟨tb_lv f + 1, ?_⟩) (fun y => ?_))))
    · rw [tb_C_d z y] at hp
      exact ty_fits_l hf ht (by omega) (by omega) (tb_lv f) 0 (by omega) hp
    · rw [tb_C_c z y] at hp
      exact hp

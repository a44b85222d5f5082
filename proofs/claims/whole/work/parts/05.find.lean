theorem tb_c5 (c : Nat) : nI c * 5 = nI (5 * c) := (pk_mul c 5).trans (congrArg nI (Nat.mul_comm c 5))
theorem tb_5c (c : Nat) : 5 * nI c = nI (5 * c) := pk_mul 5 c
theorem tb_c12 (c : Nat) : nI c * 12 = nI (12 * c) := (pk_mul c 12).trans (congrArg nI (Nat.mul_comm c 12))
theorem tb_12c (c : Nat) : 12 * nI c = nI (12 * c) := pk_mul 12 c
theorem tb_cl (x : Int32) : (x < 0 ∨ 4 ≤ x) ∨ ∃ c, c < 4 ∧ x = nI c := by
  by_cases h : x < 0
  · exact Or.inl (Or.inl h)
  · obtain ⟨j, hj, rfl⟩ := nI_of h
    by_cases h2 : j < 4
    · exact Or.inr ⟨j, h2, rfl⟩
    · exact Or.inl (Or.inr (nI_le (a := 4) (by omega) hj))
theorem tb_gd (x : Int32) : (x < 0 ∨ 2 < x) ∨ ∃ g, g ≤ 2 ∧ x = nI g := by
  by_cases h : x < 0
  · exact Or.inl (Or.inl h)
  · obtain ⟨j, hj, rfl⟩ := nI_of h
    by_cases h2 : j ≤ 2
    · exact Or.inr ⟨j, h2, rfl⟩
    · exact Or.inl (Or.inr (nI_lt (a := 2) (by omega) hj))
theorem tx_cl0 {post : Int32 → Prop} {x : Int32} (h : x < 0 ∨ 4 ≤ x) (hp : post 0) : wpX_isClient post x := by
  by_cases z : x < 0
  · exact br_t z hp
  · exact br_f z (br_t (h.resolve_left z) hp)
theorem tx_cl1 {post : Int32 → Prop} {c : Nat} (h : c < 4) (hp : post 1) : wpX_isClient post (nI c) :=
  br_f (nI_pos (by omega)) (br_f (nI_ge (b := 4) h (by decide)) hp)
theorem ty_cl0 {post : Int32 → Prop} {kc : Int32} {sf sg sc qt qv qg qc on lo kt kv : Nat → Int32} {x : Int32} (h : x < 0 ∨ 4 ≤ x) (hp : post 0) : wpY_isClient post (kc, sf, sg, sc, qt, qv, qg, qc, lo, on, kt, kv) x := by
  by_cases z : x < 0
  · exact br_t z hp
  · exact br_f z (br_t (Int32.lt_of_lt_of_le (by decide) (h.resolve_left z)) hp)
theorem ty_cl1 {post : Int32 → Prop} {kc : Int32} {sf sg sc qt qv qg qc on lo kt kv : Nat → Int32} {c : Nat} (h : c < 4) (hp : post 1) : wpY_isClient post (kc, sf, sg, sc, qt, qv, qg, qc, lo, on, kt, kv) (nI c) :=
  br_f (nI_pos (by omega)) (br_f (nI_nlt (a := 3) (by omega) (by decide)) hp)
theorem tx_gd0 {post : Int32 → Prop} {x : Int32} (h : x < 0 ∨ 2 < x) (hp : post 0) : wpX_isGrade post x := by
  by_cases z : x < 0
  · exact br_t z hp
  · exact br_f z (br_t (h.resolve_left z) hp)
theorem tx_gd1 {post : Int32 → Prop} {g : Nat} (h : g ≤ 2) (hp : post 1) : wpX_isGrade post (nI g) :=
  br_f (nI_pos (by omega)) (br_f (nI_nlt (a := 2) h (by decide)) hp)
def tb_ov (d : Int32) : Option Nat → Int32
  | none => d
  | some q => nI q
theorem tx_find_l {post : Int32 → Prop} {kc : Int32} {sf sg sc qt qv qg qc on lo kt kv : Nat → Int32} {f : Int32} {e : Nat} (he : e ≤ 20) : ∀ k i, i + k = e → post (tb_ov (-1) (tb_fd sf f k i)) → wX_findSubscription_17 post f (nI e) kc sf sg sc qt qv qg qc on lo kt kv (k + 1) (nI i) := by
  intro k
  induction k with
  | zero => exact fun i hi hp => br_t (nI_le (by omega) (by omega)) hp
  | succ k ih =>
    intro i hi hp
    refine br_f (nI_ge (by omega) (by omega)) ⟨vp_in_nI (by omega) (by decide), ?_⟩
    rw [nI_clamp (by omega)]
    by_cases z : sf i = f
    · rw [tb_fd, if_pos z] at hp
      exact br_t z hp
    · rw [tb_fd, if_neg z] at hp
      exact br_f z (nm_r (nI_1 i) (ih (i + 1) (by omega) hp))
theorem tx_find {post : Int32 → Prop} {kc : Int32} {sf sg sc qt qv qg qc on lo kt kv : Nat → Int32} {f : Int32} {c m : Nat} (hc : c < 4) (hm : m ≤ 5) (e : sc c = nI m) (hp : post (tb_ov (-1) (tb_fd sf f m (5 * c)))) : wpX_findSubscription post (kc, sf, sg, sc, qt, qv, qg, qc, on, lo, kt, kv) (nI c) f := by
  unfold wpX_findSubscription
  refine nm_r (tb_c5 c) ⟨vp_in_nI hc (by decide), nm_r (e' := nI (5 * c + m)) ?_ ⟨m + 1, tx_find_l (by omega) m (5 * c) rfl hp⟩⟩
  rw [nI_clamp (by omega), e, nI_add]
theorem ty_find_l {post : Int32 → Prop} {kc : Int32} {sf sg sc qt qv qg qc on lo kt kv : Nat → Int32} {f : Int32} {c m : Nat} (hc : c < 4) (hm : m ≤ 5) (e : sc c = nI m) : ∀ k i, i + k = 5 * c + m → post (tb_ov (-4) (tb_fd sf f k i)) → wY_find_4 post (nI c) f kc sf sg sc qt qv qg qc lo on kt kv (k + 1) (nI i) := by
  have E : 5 * nI c + sc (nI c).toNatClampNeg = nI (5 * c + m) := by rw [nI_clamp (by omega), e, tb_5c, nI_add]
  intro k
  induction k with
  | zero =>
    intro i hi hp
    refine And.intro (vp_in_nI hc (by decide)) ?_
    rw [E]
    exact br_t (nI_le (by omega) (by omega)) hp
  | succ k ih =>
    intro i hi hp
    refine And.intro (vp_in_nI hc (by decide)) ?_
    rw [E]
    refine br_f (nI_ge (by omega) (by omega)) ⟨vp_in_nI (by omega) (by decide), ?_⟩
    rw [nI_clamp (n := i) (by omega)]
    by_cases z : sf i = f
    · rw [tb_fd, if_pos z] at hp
      exact br_t z hp
    · rw [tb_fd, if_neg z] at hp
      exact br_f z (nm_r (nI_1 i) (ih (i + 1) (by omega) hp))
theorem ty_find {post : Int32 → Prop} {kc : Int32} {sf sg sc qt qv qg qc on lo kt kv : Nat → Int32} {f : Int32} {c m : Nat} (hc : c < 4) (hm : m ≤ 5) (e : sc c = nI m) (hp : post (tb_ov (-4) (tb_fd sf f m (5 * c)))) : wpY_find post (kc, sf, sg, sc, qt, qv, qg, qc, lo, on, kt, kv) (nI c) f := by
  unfold wpY_find
  exact nm_r (tb_5c c) ⟨m + 1, ty_find_l hc hm e m (5 * c) rfl hp⟩
theorem tb_Ci_n {x : Int32} {n t : Nat} (hn : tb_ok n) (ht : tb_ok t) (e : x = nI n) : tb_Ci x (nI t) = tb_C n t := by
  unfold tb_Ci
  rw [e, nI_clamp (tb_okl hn), nI_clamp (tb_okl ht)]
theorem tx_bg_l {post : Int32 → Prop} {kc : Int32} {sf sg sc qt qv qg qc on lo kt kv : Nat → Int32} {t : Nat} (ht : tb_ok t) {e : Nat} (he : e ≤ 20) : ∀ k i b, i + k = e → (∀ j, i ≤ j → j < e → ∃ n, tb_ok n ∧ sf j = nI n) → post (tb_bg sg (fun i => tb_Ci (sf i) (nI t)) k i b) → wX_bestGrade_20 post (nI t) (nI e) kc sf sg sc qt qv qg qc on lo kt kv (k + 1) b (nI i) := by
  intro k
  induction k with
  | zero => exact fun i b hi hs hp => br_t (nI_le (by omega) (by omega)) hp
  | succ k ih =>
    intro i b hi hs hp
    have hv : vp_in (nI i) 20 := vp_in_nI (by omega) (by decide)
    have hs' : ∀ j, i + 1 ≤ j → j < e → ∃ n, tb_ok n ∧ sf j = nI n := fun j h1 h2 => hs j (by omega) h2
    refine br_f (nI_ge (by omega) (by omega)) ⟨hv, ?_⟩
    rw [nI_clamp (n := i) (by omega)]
    by_cases z : sg i ≤ b
    · rw [tb_bg, if_neg (fun w => Int32.not_lt.mpr z w.1)] at hp
      exact br_t z (nm_r (nI_1 i) (ih (i + 1) b (by omega) hs' hp))
    · obtain ⟨n, hn, en⟩ := hs i (by omega) (by omega)
      have ec : tb_Ci (sf i) (nI t) = tb_C n t := tb_Ci_n hn ht en
      refine br_f z ⟨hv, ?_⟩
      rw [en]
      refine tx_covers hn ht ?_
      by_cases y : tb_C n t = true
      · rw [tb_bg, if_pos ⟨Int32.not_le.mp z, ec.trans y⟩] at hp
        refine br_f (by rw [y]; decide) ⟨hv, nm_e (nm_r (nI_1 i) (ih (i + 1) (sg i) (by omega) hs' hp))⟩
      · rw [tb_bg, if_neg (fun w => y (ec.symm.trans w.2))] at hp
        exact br_t (by rw [Bool.eq_false_iff.mpr y]; rfl) (nm_r (nI_1 i) (ih (i + 1) b (by omega) hs' hp))
theorem tx_bg {post : Int32 → Prop} {kc : Int32} {sf sg sc qt qv qg qc on lo kt kv : Nat → Int32} {t c : Nat} (ht : tb_ok t) (hc : c < 4) (h : tb_IS sf sg sc) (hp : post (tb_bx sf sg sc c (nI t))) : wpX_bestGrade post (kc, sf, sg, sc, qt, qv, qg, qc, on, lo, kt, kv) (nI c) (nI t) := by
  obtain ⟨m, hm, e, hi⟩ := h c hc
  unfold tb_bx at hp
  rw [e, nI_clamp (by omega)] at hp
  unfold wpX_bestGrade
  refine nm_r (tb_c5 c) ⟨vp_in_nI hc (by decide), nm_r (e' := nI (5 * c + m)) ?_ ⟨m + 1, tx_bg_l ht (by omega) m (5 * c) (-1) rfl (fun j h1 h2 => ?_) hp⟩⟩
  · rw [nI_clamp (by omega), e, nI_add]
  · obtain ⟨i, rfl⟩ : ∃ i, j = 5 * c + i := ⟨j - 5 * c, by omega⟩
    exact (hi i (by omega)).1
theorem ty_bg_l {post : Int32 → Prop} {kc : Int32} {sf sg sc qt qv qg qc on lo kt kv : Nat → Int32} {t : Nat} (ht : tb_ok t) {c m : Nat} (hc : c < 4) (hm : m ≤ 5) (e : sc c = nI m) : ∀ k i b, i + k = 5 * c + m → (∀ j, i ≤ j → j < 5 * c + m → ∃ n, tb_ok n ∧ sf j = nI n) → post (tb_bg sg (fun i => tb_Ci (sf i) (nI t)) k i b) → wY_greatest_8 post (nI c) (nI t) kc sf sg sc qt qv qg qc lo on kt kv (k + 1) b (nI i) := by
  have E : 5 * nI c + sc (nI c).toNatClampNeg = nI (5 * c + m) := by rw [nI_clamp (by omega), e, tb_5c, nI_add]
  intro k
  induction k with
  | zero =>
    intro i b hi hs hp
    refine And.intro (vp_in_nI hc (by decide)) ?_
    rw [E]
    exact br_t (nI_le (by omega) (by omega)) hp
  | succ k ih =>
    intro i b hi hs hp
    have hv : vp_in (nI i) 20 := vp_in_nI (by omega) (by decide)
    have hs' : ∀ j, i + 1 ≤ j → j < 5 * c + m → ∃ n, tb_ok n ∧ sf j = nI n := fun j h1 h2 => hs j (by omega) h2
    refine And.intro (vp_in_nI hc (by decide)) ?_
    rw [E]
    refine br_f (nI_ge (by omega) (by omega)) ⟨hv, ?_⟩
    rw [nI_clamp (n := i) (by omega)]
    by_cases z : sg i ≤ b
    · rw [tb_bg, if_neg (fun w => Int32.not_lt.mpr z w.1)] at hp
      exact br_t z (nm_r (nI_1 i) (ih (i + 1) b (by omega) hs' hp))
    · obtain ⟨n, hn, en⟩ := hs i (by omega) (by omega)
      have ec : tb_Ci (sf i) (nI t) = tb_C n t := tb_Ci_n hn ht en
      refine br_f z ⟨hv, ?_⟩
      rw [en]
      refine ty_fits hn ht ?_
      by_cases y : tb_C n t = true
      · rw [tb_bg, if_pos ⟨Int32.not_le.mp z, ec.trans y⟩] at hp
        refine br_f (by rw [y]; decide) ⟨hv, nm_e (nm_r (nI_1 i) (ih (i + 1) (sg i) (by omega) hs' hp))⟩
      · rw [tb_bg, if_neg (fun w => y (ec.symm.trans w.2))] at hp
        exact br_t (by rw [Bool.eq_false_iff.mpr y]; rfl) (nm_r (nI_1 i) (ih (i + 1) b (by omega) hs' hp))
theorem ty_bg {post : Int32 → Prop} {kc : Int32} {sf sg sc qt qv qg qc on lo kt kv : Nat → Int32} {t c : Nat} (ht : tb_ok t) (hc : c < 4) (h : tb_IS sf sg sc) (hp : post (tb_by sf sg sc c (nI t))) : wpY_greatest post (kc, sf, sg, sc, qt, qv, qg, qc, lo, on, kt, kv) (nI c) (nI t) := by
  obtain ⟨m, hm, e, hi⟩ := h c hc
  unfold tb_by at hp
  rw [e, nI_clamp (by omega)] at hp
  unfold wpY_greatest
  refine nm_r (tb_5c c) ⟨m + 1, ty_bg_l ht hc hm e m (5 * c) (-4) rfl (fun j h1 h2 => ?_) hp⟩
  obtain ⟨i, rfl⟩ : ∃ i, j = 5 * c + i := ⟨j - 5 * c, by omega⟩
  exact (hi i (by omega)).1

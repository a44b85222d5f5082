theorem tx_fk_l {post : Int32 → Prop} {kc : Int32} {sf sg sc qt qv qg qc on lo kt kv : Nat → Int32} {t : Int32} {km : Nat} (hk : km ≤ 8) : ∀ k i, i + k = km → post (tb_ov (-1) (tb_fd kt t k i)) → wX_findKept_2 post t (nI km) sf sg sc qt qv qg qc on lo kt kv (k + 1) (nI i) := by
  intro k
  induction k with
  | zero => exact fun i hi hp => br_t (nI_le (by omega) (by omega)) hp
  | succ k ih =>
    intro i hi hp
    refine br_f (nI_ge (by omega) (by omega)) ⟨vp_in_nI (by omega) (by decide), ?_⟩
    rw [nI_clamp (n := i) (by omega)]
    by_cases z : kt i = t
    · rw [tb_fd, if_pos z] at hp
      exact br_t z hp
    · rw [tb_fd, if_neg z] at hp
      exact br_f z (nm_r (nI_1 i) (ih (i + 1) (by omega) hp))
theorem tx_fk {post : Int32 → Prop} {kc : Int32} {sf sg sc qt qv qg qc on lo kt kv : Nat → Int32} {t : Int32} {km : Nat} (hk : km ≤ 8) (hp : post (tb_ov (-1) (tb_fd kt t km 0))) : wpX_findKept post (nI km, sf, sg, sc, qt, qv, qg, qc, on, lo, kt, kv) t :=
  Exists.intro (km + 1) (tx_fk_l (kc := kc) hk km 0 (by omega) hp)
theorem ty_kp_l {post : Int32 → Prop} {kc : Int32} {sf sg sc qt qv qg qc on lo kt kv : Nat → Int32} {t : Int32} {km : Nat} (hk : km ≤ 8) : ∀ k i, i + k = km → post (nI (tb_pl kt t k i)) → wY_keptPlace_2 post t (nI km) sf sg sc qt qv qg qc lo on kt kv (k + 1) (nI i) := by
  intro k
  induction k with
  | zero => exact fun i hi hp => br_t (nI_le (by omega) (by omega)) hp
  | succ k ih =>
    intro i hi hp
    refine br_f (nI_ge (by omega) (by omega)) ⟨vp_in_nI (by omega) (by decide), ?_⟩
    rw [nI_clamp (n := i) (by omega)]
    by_cases z : kt i < t
    · rw [tb_pl, if_pos z] at hp
      exact br_f (Int32.not_le.mpr z) (nm_r (nI_1 i) (ih (i + 1) (by omega) hp))
    · rw [tb_pl, if_neg z] at hp
      exact br_t (Int32.not_lt.mp z) hp
theorem ty_kp {post : Int32 → Prop} {kc : Int32} {sf sg sc qt qv qg qc on lo kt kv : Nat → Int32} {t : Int32} {km : Nat} (hk : km ≤ 8) (hp : post (nI (tb_pl kt t km 0))) : wpY_keptPlace post (nI km, sf, sg, sc, qt, qv, qg, qc, lo, on, kt, kv) t :=
  Exists.intro (km + 1) (ty_kp_l (kc := kc) hk km 0 (by omega) hp)
theorem tx_ik_l {post : SX → Prop} {kc : Int32} {sf sg sc qt qv qg qc on lo : Nat → Int32} {t v : Int32} {p : Nat} : ∀ k (kt kv : Nat → Int32), p + k < 8 → (∀ j, j < p → kt j < t) → (∀ j, p ≤ j → j < p + k → t < kt j) →
    post (kc + 1, sf, sg, sc, qt, qv, qg, qc, on, lo, upd (tb_su k p kt) p t, upd (tb_su k p kv) p v) → wX_insertKept_11 post t v kc (k + 1) (nI (p + k)) (nI (p + k)) sf sg sc qt qv qg qc on lo kt kv := by
  intro k
  induction k with
  | zero =>
    intro kt kv hk h1 h2 hp
    have hv : vp_in (nI p) 8 := vp_in_nI (by omega) (by decide)
    have K : wX_insertKept_72 post t v (nI p) kc sf sg sc qt qv qg qc on lo kt kv := by
      unfold wX_insertKept_72
      rw [nI_clamp (n := p) (by omega)]
      exact ⟨hv, nm_e ⟨hv, nm_e (nm_e hp)⟩⟩
    by_cases z : p = 0
    · subst z
      exact br_t (nI_le (Nat.le_refl 0) (by decide)) K
    · refine br_f (nI_nle (by omega) (by omega)) ?_
      obtain ⟨q, rfl⟩ : ∃ q, p = q + 1 := ⟨p - 1, by omega⟩
      rw [show nI (q + 1 + 0) - 1 = nI q from nI_pred q, nI_clamp (n := q) (by omega)]
      exact ⟨vp_in_nI (by omega) (by decide), br_t (Int32.le_of_lt (h1 q (by omega))) K⟩
  | succ k ih =>
    intro kt kv hk h1 h2 hp
    have hv : vp_in (nI (p + k)) 8 := vp_in_nI (by omega) (by decide)
    have hv2 : vp_in (nI (p + k + 1)) 8 := vp_in_nI (by omega) (by decide)
    show wX_insertKept_11 post t v kc (k + 1 + 1) (nI (p + k + 1)) (nI (p + k + 1)) sf sg sc qt qv qg qc on lo kt kv
    refine br_f (nI_nle (by omega) (by omega)) ?_
    rw [nI_pred (p + k), nI_clamp (n := p + k) (by omega), nI_clamp (n := p + k + 1) (by omega)]
    refine ⟨hv, br_f (Int32.not_le.mpr (h2 (p + k) (by omega) (by omega))) ⟨hv, hv2, nm_e ⟨hv, hv2, nm_e (nm_e (nm_r (pk_m1 (p + k)) (ih _ _ (by omega) (fun j hj => ?_) (fun j hj hj2 => ?_) hp)))⟩⟩⟩
    · rw [pk_un (by omega)]
      exact h1 j hj
    · rw [pk_un (by omega)]
      exact h2 j hj (by omega)
theorem ty_ik_l {post : Int32 → SY → Prop} {kc : Int32} {sf sg sc qt qv qg qc on lo : Nat → Int32} {t v : Int32} {p : Nat} : ∀ k (kt kv : Nat → Int32), p + k < 8 →
    post 0 (kc + 1, sf, sg, sc, qt, qv, qg, qc, lo, on, upd (tb_su k p kt) p t, upd (tb_su k p kv) p v) → wY_keep_61 post t v (nI p) kc (k + 1) (nI (p + k)) sf sg sc qt qv qg qc lo on kt kv := by
  intro k
  induction k with
  | zero =>
    intro kt kv hk hp
    have hv : vp_in (nI p) 8 := vp_in_nI (by omega) (by decide)
    refine br_t (nI_le (Nat.le_refl p) (by omega)) ?_
    rw [nI_clamp (n := p) (by omega)]
    exact ⟨hv, nm_e ⟨hv, nm_e (nm_e hp)⟩⟩
  | succ k ih =>
    intro kt kv hk hp
    have hv : vp_in (nI (p + k)) 8 := vp_in_nI (by omega) (by decide)
    have hv2 : vp_in (nI (p + k + 1)) 8 := vp_in_nI (by omega) (by decide)
    show wY_keep_61 post t v (nI p) kc (k + 1 + 1) (nI (p + k + 1)) sf sg sc qt qv qg qc lo on kt kv
    refine br_f (nI_ge (by omega) (by omega)) ?_
    rw [nI_pred (p + k), nI_clamp (n := p + k) (by omega), nI_clamp (n := p + k + 1) (by omega)]
    exact ⟨hv, hv2, nm_e ⟨hv, hv2, nm_e (nm_r (pk_m1 (p + k)) (ih _ _ (by omega) hp))⟩⟩
theorem tx_rk_l {post : SX → Prop} {sf sg sc qt qv qg qc on lo : Nat → Int32} {m : Nat} (h1 : 1 ≤ m) (h8 : m ≤ 8) : ∀ k i (kt kv : Nat → Int32), i + k = m - 1 →
    post (nI (m - 1), sf, sg, sc, qt, qv, qg, qc, on, lo, tb_sh k i kt, tb_sh k i kv) → wX_removeKept_2 post (nI m) (k + 1) (nI i) sf sg sc qt qv qg qc on lo kt kv := by
  have E : nI m - 1 = nI (m - 1) := pk_sub (b := 1) h1
  intro k
  induction k with
  | zero =>
    intro i kt kv hi hp
    exact br_t (by rw [E]; exact nI_le (by omega) (by omega)) (nm_r E hp)
  | succ k ih =>
    intro i kt kv hi hp
    have hv : vp_in (nI i) 8 := vp_in_nI (by omega) (by decide)
    have hv2 : vp_in (nI (i + 1)) 8 := vp_in_nI (by omega) (by decide)
    refine br_f (by rw [E]; exact nI_ge (by omega) (by omega)) ?_
    rw [nI_1 i, nI_clamp (n := i) (by omega), nI_clamp (n := i + 1) (by omega)]
    exact ⟨hv2, hv, nm_e ⟨hv2, hv, nm_e (nm_e (ih (i + 1) _ _ (by omega) hp))⟩⟩
theorem ty_rk_l {post : Int32 → SY → Prop} {sf sg sc qt qv qg qc on lo : Nat → Int32} {e : Nat} (h8 : e < 8) : ∀ k i (kt kv : Nat → Int32), i + k = e →
    post 0 (nI e, sf, sg, sc, qt, qv, qg, qc, lo, on, tb_sh k i kt, tb_sh k i kv) → wY_forget_49 post (nI e) (k + 1) (nI i) sf sg sc qt qv qg qc lo on kt kv := by
  intro k
  induction k with
  | zero =>
    intro i kt kv hi hp
    exact br_t (nI_le (by omega) (by omega)) hp
  | succ k ih =>
    intro i kt kv hi hp
    have hv : vp_in (nI i) 8 := vp_in_nI (by omega) (by decide)
    have hv2 : vp_in (nI (i + 1)) 8 := vp_in_nI (by omega) (by decide)
    refine br_f (nI_ge (by omega) (by omega)) ?_
    rw [nI_1 i, nI_clamp (n := i) (by omega), nI_clamp (n := i + 1) (by omega)]
    exact ⟨hv2, hv, nm_e ⟨hv2, hv, nm_e (nm_e (ih (i + 1) _ _ (by omega) hp))⟩⟩
theorem tx_rf_l {post : SX → Prop} {kc : Int32} {sf sg sc qc on lo kt kv : Nat → Int32} {c m : Nat} (hc : c < 4) (h1 : 1 ≤ m) (h12 : m ≤ 12) (em : qc c = nI m) : ∀ k i (qt qv qg : Nat → Int32), i + k = 12 * c + m - 1 →
    post (kc, sf, sg, sc, tb_sh k i qt, tb_sh k i qv, tb_sh k i qg, upd qc c (nI (m - 1)), on, lo, kt, kv) → wX_removeFirst_19 post (nI c) (nI (12 * c + m - 1)) kc (k + 1) (nI i) sf sg sc qt qv qg qc on lo kt kv := by
  have hc4 : vp_in (nI c) 4 := vp_in_nI hc (by decide)
  have E : nI m - 1 = nI (m - 1) := pk_sub (b := 1) h1
  intro k
  induction k with
  | zero =>
    intro i qt qv qg hi hp
    refine br_t (nI_le (by omega) (by omega)) ⟨hc4, hc4, nm_e ?_⟩
    rw [nI_clamp (n := c) (by omega), em, E]
    exact hp
  | succ k ih =>
    intro i qt qv qg hi hp
    have hv : vp_in (nI i) 48 := vp_in_nI (by omega) (by decide)
    have hv2 : vp_in (nI (i + 1)) 48 := vp_in_nI (by omega) (by decide)
    refine br_f (nI_ge (by omega) (by omega)) ?_
    rw [nI_1 i, nI_clamp (n := i) (by omega), nI_clamp (n := i + 1) (by omega)]
    exact ⟨hv2, hv, nm_e ⟨hv2, hv, nm_e ⟨hv2, hv, nm_e (nm_e (ih (i + 1) _ _ _ (by omega) hp))⟩⟩⟩
theorem ty_rf_l {post : Int32 → SY → Prop} {kc : Int32} {sf sg sc qc on lo kt kv : Nat → Int32} {c m : Nat} {r : Int32} (hc : c < 4) (h12 : m < 12) (em : qc c = nI m) : ∀ k i (qt qv qg : Nat → Int32), i + k = 12 * c + m →
    post r (kc, sf, sg, sc, tb_sh k i qt, tb_sh k i qv, tb_sh k i qg, qc, lo, on, kt, kv) → wY_take_53 post (nI c) r kc (k + 1) (nI i) sf sg sc qt qv qg qc lo on kt kv := by
  have hc4 : vp_in (nI c) 4 := vp_in_nI hc (by decide)
  have E : 12 * nI c + qc (nI c).toNatClampNeg = nI (12 * c + m) := by rw [nI_clamp (by omega), em, tb_12c, nI_add]
  intro k
  induction k with
  | zero =>
    intro i qt qv qg hi hp
    refine And.intro hc4 ?_
    rw [E]
    exact br_t (nI_le (by omega) (by omega)) hp
  | succ k ih =>
    intro i qt qv qg hi hp
    have hv : vp_in (nI i) 48 := vp_in_nI (by omega) (by decide)
    have hv2 : vp_in (nI (i + 1)) 48 := vp_in_nI (by omega) (by decide)
    refine And.intro hc4 ?_
    rw [E]
    refine br_f (nI_ge (by omega) (by omega)) ?_
    rw [nI_1 i, nI_clamp (n := i) (by omega), nI_clamp (n := i + 1) (by omega)]
    exact ⟨hv2, hv, nm_e ⟨hv2, hv, nm_e ⟨hv2, hv, nm_e (nm_e (ih (i + 1) _ _ _ (by omega) hp))⟩⟩⟩
theorem tx_rs_l {post : SX → Prop} {kc : Int32} {sc qt qv qg qc on lo kt kv : Nat → Int32} {c m : Nat} (hc : c < 4) (h1 : 1 ≤ m) (h5 : m ≤ 5) (em : sc c = nI m) : ∀ k i (sf sg : Nat → Int32), i + k = 5 * c + m - 1 →
    post (kc, tb_sh k i sf, tb_sh k i sg, upd sc c (nI (m - 1)), qt, qv, qg, qc, on, lo, kt, kv) → wX_removeSubscription_16 post (nI c) (nI (5 * c + m - 1)) kc (k + 1) (nI i) sf sg sc qt qv qg qc on lo kt kv := by
  have hc4 : vp_in (nI c) 4 := vp_in_nI hc (by decide)
  have E : nI m - 1 = nI (m - 1) := pk_sub (b := 1) h1
  intro k
  induction k with
  | zero =>
    intro i sf sg hi hp
    refine br_t (nI_le (by omega) (by omega)) ⟨hc4, hc4, nm_e ?_⟩
    rw [nI_clamp (n := c) (by omega), em, E]
    exact hp
  | succ k ih =>
    intro i sf sg hi hp
    have hv : vp_in (nI i) 20 := vp_in_nI (by omega) (by decide)
    have hv2 : vp_in (nI (i + 1)) 20 := vp_in_nI (by omega) (by decide)
    refine br_f (nI_ge (by omega) (by omega)) ?_
    rw [nI_1 i, nI_clamp (n := i) (by omega), nI_clamp (n := i + 1) (by omega)]
    exact ⟨hv2, hv, nm_e ⟨hv2, hv, nm_e (nm_e (ih (i + 1) _ _ (by omega) hp))⟩⟩
theorem ty_rs_l {post : Int32 → SY → Prop} {kc : Int32} {sc qt qv qg qc on lo kt kv : Nat → Int32} {c m : Nat} {r : Int32} (hc : c < 4) (h5 : m < 5) (em : sc c = nI m) : ∀ k i (sf sg : Nat → Int32), i + k = 5 * c + m →
    post r (kc, tb_sh k i sf, tb_sh k i sg, sc, qt, qv, qg, qc, lo, on, kt, kv) → wY_unsubscribe_55 post (nI c) r kc (k + 1) (nI i) sf sg sc qt qv qg qc lo on kt kv := by
  have hc4 : vp_in (nI c) 4 := vp_in_nI hc (by decide)
  have E : 5 * nI c + sc (nI c).toNatClampNeg = nI (5 * c + m) := by rw [nI_clamp (by omega), em, tb_5c, nI_add]
  intro k
  induction k with
  | zero =>
    intro i sf sg hi hp
    refine And.intro hc4 ?_
    rw [E]
    exact br_t (nI_le (by omega) (by omega)) hp
  | succ k ih =>
    intro i sf sg hi hp
    have hv : vp_in (nI i) 20 := vp_in_nI (by omega) (by decide)
    have hv2 : vp_in (nI (i + 1)) 20 := vp_in_nI (by omega) (by decide)
    refine And.intro hc4 ?_
    rw [E]
    refine br_f (nI_ge (by omega) (by omega)) ?_
    rw [nI_1 i, nI_clamp (n := i) (by omega), nI_clamp (n := i + 1) (by omega)]
    exact ⟨hv2, hv, nm_e ⟨hv2, hv, nm_e (nm_e (ih (i + 1) _ _ (by omega) hp))⟩⟩
theorem tx_kc_l {post : Int32 → Prop} {kc : Int32} {sf sg sc qt qv qg qc on lo kt kv : Nat → Int32} {f : Int32} {km : Nat} (hf : tb_OK f) (hk : km ≤ 8) (hkt : ∀ i, i < km → tb_OK (kt i)) : ∀ k i n, i + k = km → post (tb_kc (fun i => tb_Ci f (kt i)) k i n) → wX_kept_13 post f (nI km) sf sg sc qt qv qg qc on lo kt kv (k + 1) n (nI i) := by
  intro k
  induction k with
  | zero => exact fun i n hi hp => br_t (nI_le (by omega) (by omega)) hp
  | succ k ih =>
    intro i n hi hp
    refine br_f (nI_ge (by omega) (by omega)) ⟨vp_in_nI (by omega) (by decide), ?_⟩
    rw [nI_clamp (n := i) (by omega)]
    refine tx_cov hf (hkt i (by omega)) ?_
    by_cases z : tb_Ci f (kt i) = true
    · rw [tb_kc, if_pos z] at hp
      exact br_f (tb_b_ne z) (nm_e (nm_r (nI_1 i) (ih (i + 1) (n + 1) (by omega) hp)))
    · rw [tb_kc, if_neg z] at hp
      exact br_t (tb_b_eq z) (nm_r (nI_1 i) (ih (i + 1) n (by omega) hp))
theorem ty_kc_l {post : Int32 → Prop} {kc : Int32} {sf sg sc qt qv qg qc on lo kt kv : Nat → Int32} {f : Int32} {km : Nat} (hf : tb_OK f) (hk : km ≤ 8) (hkt : ∀ i, i < km → tb_OK (kt i)) : ∀ k i n, i + k = km → post (tb_kc (fun i => tb_Ci f (kt i)) k i n) → wY_kept_14 post f (nI km) sf sg sc qt qv qg qc lo on kt kv (k + 1) n (nI i) := by
  intro k
  induction k with
  | zero => exact fun i n hi hp => br_t (nI_le (by omega) (by omega)) hp
  | succ k ih =>
    intro i n hi hp
    refine br_f (nI_ge (by omega) (by omega)) ⟨vp_in_nI (by omega) (by decide), ?_⟩
    rw [nI_clamp (n := i) (by omega)]
    refine ty_fit hf (hkt i (by omega)) ?_
    by_cases z : tb_Ci f (kt i) = true
    · rw [tb_kc, if_pos z] at hp
      exact br_f (tb_b_ne z) (nm_e (nm_r (nI_1 i) (ih (i + 1) (n + 1) (by omega) hp)))
    · rw [tb_kc, if_neg z] at hp
      exact br_t (tb_b_eq z) (nm_r (nI_1 i) (ih (i + 1) n (by omega) hp))
theorem tx_rc_l {post : Int32 → Prop} {kc : Int32} {sf sg sc qt qv qg qc on lo kt kv : Nat → Int32} {t : Nat} (ht : tb_ok t) (hS : tb_IS sf sg sc) : ∀ k c n, c + k = 4 → post (tb_rc (fun c => tb_bx sf sg sc c (nI t)) k c n) → wX_reached_13 post (nI t) kc sf sg sc qt qv qg qc on lo kt kv (k + 1) n (nI c) := by
  intro k
  induction k with
  | zero => exact fun c n hc hp => br_t (nI_le (a := 4) (by omega) (by omega)) hp
  | succ k ih =>
    intro c n hk hp
    have hc : c < 4 := by omega
    refine br_f (nI_ge (b := 4) hc (by decide)) (tx_bg ht hc hS ?_)
    by_cases z : tb_bx sf sg sc c (nI t) = -1
    · rw [tb_rc, if_pos z] at hp
      exact br_t z (nm_r (nI_1 c) (ih (c + 1) n (by omega) hp))
    · rw [tb_rc, if_neg z] at hp
      exact br_f z (nm_e (nm_r (nI_1 c) (ih (c + 1) _ (by omega) hp)))
theorem ty_rc_l {post : Int32 → Prop} {kc : Int32} {sf sg sc qt qv qg qc on lo kt kv : Nat → Int32} {t : Nat} (ht : tb_ok t) (hS : tb_IS sf sg sc) : ∀ k c n, c + k = 4 → post (tb_rc (fun c => tb_bx sf sg sc c (nI t)) k c n) → wY_reached_14 post (nI t) kc sf sg sc qt qv qg qc lo on kt kv (k + 1) n (nI c) := by
  intro k
  induction k with
  | zero => exact fun c n hc hp => br_t (nI_le (a := 4) (by omega) (by omega)) hp
  | succ k ih =>
    intro c n hk hp
    have hc : c < 4 := by omega
    have hb := tb_bxy (nI t) hS hc
    refine br_f (nI_ge (b := 4) hc (by decide)) (ty_bg ht hc hS ?_)
    by_cases z : tb_bx sf sg sc c (nI t) = -1
    · rw [tb_rc, if_pos z] at hp
      exact br_t ((tb_bxy_n hb).mp z) (nm_r (nI_1 c) (ih (c + 1) n (by omega) hp))
    · rw [tb_rc, if_neg z] at hp
      exact br_f (fun w => z ((tb_bxy_n hb).mpr w)) (nm_e (nm_r (nI_1 c) (ih (c + 1) _ (by omega) hp)))
theorem tb_wd_f1 {sf sg sc : Nat → Int32} {c t : Nat} (h : ¬ tb_T (nI t) = true) : ¬ tb_wd sf sg sc c t = true := by
  unfold tb_wd
  rw [Bool.eq_false_iff.mpr h]
  exact fun z => nomatch z
theorem tb_wd_f2 {sf sg sc : Nat → Int32} {c t : Nat} (h : tb_bx sf sg sc c (nI t) = -1) : ¬ tb_wd sf sg sc c t = true := by
  unfold tb_wd
  rw [decide_eq_false (fun z => z h), Bool.and_false]
  exact fun z => nomatch z
theorem tb_wd_t {sf sg sc : Nat → Int32} {c t : Nat} (h : tb_T (nI t) = true) (h2 : ¬ tb_bx sf sg sc c (nI t) = -1) : tb_wd sf sg sc c t = true := by
  unfold tb_wd
  rw [h, decide_eq_true h2]
  rfl
theorem tb_T_okt {t : Nat} (ht : t < 2 ^ 31) (h : tb_T (nI t) = true) : tb_ok t := by
  obtain ⟨n, hn, e⟩ := tb_T_ok h
  rw [(nI_eq ht (tb_okl hn)).mp e]
  exact hn
theorem tx_wd_l {post : Int32 → Prop} {kc : Int32} {sf sg sc qt qv qg qc on lo kt kv : Nat → Int32} {c : Nat} (hc : c < 4) (hS : tb_IS sf sg sc) : ∀ k t n, t + k = 4096 → post (tb_kc (tb_wd sf sg sc c) k t n) → wX_breadth_13 post (nI c) kc sf sg sc qt qv qg qc on lo kt kv (k + 1) n (nI t) := by
  intro k
  induction k with
  | zero => exact fun t n ht hp => br_t (nI_lt (a := 4095) (by omega) (by omega)) hp
  | succ k ih =>
    intro t n ht hp
    refine br_f (nI_nlt (a := 4095) (by omega) (by decide)) (tx_isTopic (nI t) ?_)
    by_cases y : tb_T (nI t) = true
    · refine br_f (tb_b_ne y) (tx_bg (tb_T_okt (by omega) y) hc hS ?_)
      by_cases z : tb_bx sf sg sc c (nI t) = -1
      · rw [tb_kc, if_neg (tb_wd_f2 z)] at hp
        exact br_t z (nm_r (nI_1 t) (ih (t + 1) n (by omega) hp))
      · rw [tb_kc, if_pos (tb_wd_t y z)] at hp
        exact br_f z (nm_e (nm_r (nI_1 t) (ih (t + 1) (n + 1) (by omega) hp)))
    · rw [tb_kc, if_neg (tb_wd_f1 y)] at hp
      exact br_t (tb_b_eq y) (nm_r (nI_1 t) (ih (t + 1) n (by omega) hp))
theorem ty_wd_l {post : Int32 → Prop} {kc : Int32} {sf sg sc qt qv qg qc on lo kt kv : Nat → Int32} {c m : Nat} (hc : c < 4) (hS : tb_IS sf sg sc) (em : sc c = nI m) (h0 : 0 < m) (h5 : m ≤ 5) : ∀ k t n, t + k = 4096 → post (tb_kc (tb_wd sf sg sc c) k t n) → wY_breadth_14 post (nI c) kc sf sg sc qt qv qg qc lo on kt kv (k + 1) n (nI t) := by
  intro k
  induction k with
  | zero => exact fun t n ht hp => br_t (nI_le (a := 4096) (by omega) (by omega)) hp
  | succ k ih =>
    intro t n ht hp
    refine br_f (nI_ge (b := 4096) (by omega) (by decide)) ⟨vp_in_nI hc (by decide), ?_⟩
    rw [nI_clamp (n := c) (by omega), em]
    refine br_f (nI_nle h0 (by omega)) (ty_isTopic (nI t) ?_)
    by_cases y : tb_T (nI t) = true
    · have hb := tb_bxy (nI t) hS hc
      refine br_f (tb_b_ne y) (ty_bg (tb_T_okt (by omega) y) hc hS ?_)
      by_cases z : tb_bx sf sg sc c (nI t) = -1
      · rw [tb_kc, if_neg (tb_wd_f2 z)] at hp
        exact br_t ((tb_bxy_n hb).mp z) (nm_r (nI_1 t) (ih (t + 1) n (by omega) hp))
      · rw [tb_kc, if_pos (tb_wd_t y z)] at hp
        exact br_f (fun w => z ((tb_bxy_n hb).mpr w)) (nm_e (nm_r (nI_1 t) (ih (t + 1) (n + 1) (by omega) hp)))
    · rw [tb_kc, if_neg (tb_wd_f1 y)] at hp
      exact br_t (tb_b_eq y) (nm_r (nI_1 t) (ih (t + 1) n (by omega) hp))

def i_Rel (k : Nat) (u : SX) (v : SY) : Prop := ∃ (kc : Int32) (sf sg sc qt qv qg qc on lo kt kv : Nat → Int32), u = (kc, sf, sg, sc, qt, qv, qg, qc, on, lo, kt, kv) ∧ v = (kc, sf, sg, sc, qt, qv, qg, qc, lo, on, kt, kv) ∧ tb_IS sf sg sc ∧ tb_IQ qc ∧ tb_IK kt kc
theorem tb_mk {k : Nat} {kc : Int32} {sf sg sc qt qv qg qc on lo kt kv : Nat → Int32} (hS : tb_IS sf sg sc) (hQ : tb_IQ qc) (hK : tb_IK kt kc) : i_Rel k (kc, sf, sg, sc, qt, qv, qg, qc, on, lo, kt, kv) (kc, sf, sg, sc, qt, qv, qg, qc, lo, on, kt, kv) := ⟨kc, sf, sg, sc, qt, qv, qg, qc, on, lo, kt, kv, rfl, rfl, hS, hQ, hK⟩
theorem i_up {k : Nat} {u : SX} {v : SY} (h : i_Rel k u v) : i_Rel (k + 4) u v := h
def tb_on : Nat → Nat → (Nat → Int32) → (Nat → Int32)
  | 0, _, a => a
  | k + 1, c, a => tb_on k (c + 1) (upd a c (vp_nar .boolean 1))
theorem tx_init_l {post : SX → Prop} {kc : Int32} {sf sg sc qt qv qg qc lo kt kv : Nat → Int32} : ∀ k c (on : Nat → Int32), c + k = 4 → post (kc, sf, sg, sc, qt, qv, qg, qc, tb_on k c on, lo, kt, kv) → wX_init_90 post kc (k + 1) (nI c) sf sg sc qt qv qg qc on lo kt kv := by
  intro k
  induction k with
  | zero => exact fun c on hc hp => br_t (nI_le (a := 4) (by omega) (by omega)) hp
  | succ k ih =>
    intro c on hc hp
    refine br_f (nI_ge (b := 4) (by omega) (by decide)) ⟨vp_in_nI (by omega) (by decide), ?_⟩
    rw [nI_clamp (n := c) (by omega)]
    exact nm_e (nm_r (nI_1 c) (ih (c + 1) _ (by omega) hp))
theorem ty_init_l {post : SY → Prop} {kc : Int32} {sf sg sc qt qv qg qc lo kt kv : Nat → Int32} : ∀ k c (on : Nat → Int32), c + k = 4 → post (kc, sf, sg, sc, qt, qv, qg, qc, lo, tb_on k c on, kt, kv) → wY_init_90 post kc (k + 1) (nI c) sf sg sc qt qv qg qc lo on kt kv := by
  intro k
  induction k with
  | zero => exact fun c on hc hp => br_t (nI_le (a := 4) (by omega) (by omega)) hp
  | succ k ih =>
    intro c on hc hp
    refine br_f (nI_ge (b := 4) (by omega) (by decide)) ⟨vp_in_nI (by omega) (by decide), ?_⟩
    rw [nI_clamp (n := c) (by omega)]
    exact nm_e (nm_r (nI_1 c) (ih (c + 1) _ (by omega) hp))
theorem i_vc0 : wpX_init (fun u => wpY_init (fun v => i_Rel 0 u v)) :=
  Exists.intro 5 (tx_init_l 4 0 _ rfl (Exists.intro 5 (ty_init_l 4 0 _ rfl (tb_mk tb_IS_0 tb_IQ_0 tb_IK_0))))
theorem tb_n10 : ¬ (1 : Int32) = 0 := by decide
theorem tb_nm1 {q : Nat} (h : q < 2 ^ 31) : ¬ nI q = -1 := fun e => absurd (nI_pos' (n := q) h) (by rw [e]; decide)
theorem tb_nm4 {q : Nat} (h : q < 2 ^ 31) : ¬ nI q = -4 := fun e => absurd (nI_pos' (n := q) h) (by rw [e]; decide)
theorem tb_uid {a : Nat → Int32} {q : Nat} {x : Int32} (h : a q = x) : upd a q x = a := by
  funext j
  by_cases e : j = q
  · rw [e, pk_us, h]
  · rw [pk_un e]
theorem i_vc_matches {k : Nat} {u : SX} {v : SY} (I : i_Rel k u v) (hk : k + 4 ≤ 2048) (v1 : Int32) (v2 : Int32) : wpX_matches (fun r => wpY_matches (fun r' => r' = r ∧ i_Rel (k + 4) u v) v v1 v2) u v1 v2 := by
  have R := i_up I
  obtain ⟨kc, sf, sg, sc, qt, qv, qg, qc, on, lo, kt, kv, rfl, rfl, hS, hQ, hK⟩ := I
  unfold wpX_matches
  refine tx_isFilter v1 ?_
  by_cases z : tb_F v1 = true
  · refine br_f (tb_b_ne z) (tx_isTopic v2 ?_)
    by_cases y : tb_T v2 = true
    · refine br_f (tb_b_ne y) (tx_cov (tb_F_ok z) (tb_T_ok y) ?_)
      by_cases w : tb_Ci v1 v2 = true
      · refine br_f (tb_b_ne w) ?_
        unfold wpY_matches
        exact ty_isFilter v1 (br_f (tb_b_ne z) (ty_isTopic v2 (br_f (tb_b_ne y) (ty_fit (tb_F_ok z) (tb_T_ok y) (br_f (tb_b_ne w) ⟨rfl, R⟩)))))
      · refine br_t (tb_b_eq w) ?_
        unfold wpY_matches
        exact ty_isFilter v1 (br_f (tb_b_ne z) (ty_isTopic v2 (br_f (tb_b_ne y) (ty_fit (tb_F_ok z) (tb_T_ok y) (br_t (tb_b_eq w) ⟨rfl, R⟩)))))
    · refine br_t (tb_b_eq y) ?_
      unfold wpY_matches
      exact ty_isFilter v1 (br_f (tb_b_ne z) (ty_isTopic v2 (br_t (tb_b_eq y) ⟨rfl, R⟩)))
  · refine br_t (tb_b_eq z) ?_
    unfold wpY_matches
    exact ty_isFilter v1 (br_t (tb_b_eq z) ⟨rfl, R⟩)
theorem i_vc_subscriptions {k : Nat} {u : SX} {v : SY} (I : i_Rel k u v) (hk : k + 4 ≤ 2048) (v1 : Int32) : wpX_subscriptions (fun r => wpY_subscriptions (fun r' => r' = r ∧ i_Rel (k + 4) u v) v v1) u v1 := by
  have R := i_up I
  obtain ⟨kc, sf, sg, sc, qt, qv, qg, qc, on, lo, kt, kv, rfl, rfl, hS, hQ, hK⟩ := I
  unfold wpX_subscriptions
  rcases tb_cl v1 with hb | ⟨c, hc, rfl⟩
  · refine tx_cl0 hb (br_t rfl ?_)
    unfold wpY_subscriptions
    exact ty_cl0 hb (br_t rfl ⟨rfl, R⟩)
  · have hv : vp_in (nI c) 4 := vp_in_nI hc (by decide)
    refine tx_cl1 hc (br_f tb_n10 ⟨hv, ?_⟩)
    unfold wpY_subscriptions
    exact ty_cl1 hc (br_f tb_n10 ⟨hv, rfl, R⟩)
theorem i_vc_waiting {k : Nat} {u : SX} {v : SY} (I : i_Rel k u v) (hk : k + 4 ≤ 2048) (v1 : Int32) : wpX_waiting (fun r => wpY_waiting (fun r' => r' = r ∧ i_Rel (k + 4) u v) v v1) u v1 := by
  have R := i_up I
  obtain ⟨kc, sf, sg, sc, qt, qv, qg, qc, on, lo, kt, kv, rfl, rfl, hS, hQ, hK⟩ := I
  unfold wpX_waiting
  rcases tb_cl v1 with hb | ⟨c, hc, rfl⟩
  · refine tx_cl0 hb (br_t rfl ?_)
    unfold wpY_waiting
    exact ty_cl0 hb (br_t rfl ⟨rfl, R⟩)
  · have hv : vp_in (nI c) 4 := vp_in_nI hc (by decide)
    refine tx_cl1 hc (br_f tb_n10 ⟨hv, ?_⟩)
    unfold wpY_waiting
    exact ty_cl1 hc (br_f tb_n10 ⟨hv, rfl, R⟩)
theorem i_vc_lost {k : Nat} {u : SX} {v : SY} (I : i_Rel k u v) (hk : k + 4 ≤ 2048) (v1 : Int32) : wpX_lost (fun r => wpY_lost (fun r' => r' = r ∧ i_Rel (k + 4) u v) v v1) u v1 := by
  have R := i_up I
  obtain ⟨kc, sf, sg, sc, qt, qv, qg, qc, on, lo, kt, kv, rfl, rfl, hS, hQ, hK⟩ := I
  unfold wpX_lost
  rcases tb_cl v1 with hb | ⟨c, hc, rfl⟩
  · refine tx_cl0 hb (br_t rfl ?_)
    unfold wpY_lost
    exact ty_cl0 hb (br_t rfl ⟨rfl, R⟩)
  · have hv : vp_in (nI c) 4 := vp_in_nI hc (by decide)
    refine tx_cl1 hc (br_f tb_n10 ⟨hv, ?_⟩)
    unfold wpY_lost
    exact ty_cl1 hc (br_f tb_n10 ⟨hv, rfl, R⟩)
theorem i_vc_connect {k : Nat} {u : SX} {v : SY} (I : i_Rel k u v) (hk : k + 4 ≤ 2048) (v1 : Int32) (v2 : Int32) : wpX_connect (fun r u' => wpY_connect (fun r' v' => r' = r ∧ i_Rel (k + 4) u' v') v v1 v2) u v1 v2 := by
  have R := i_up I
  obtain ⟨kc, sf, sg, sc, qt, qv, qg, qc, on, lo, kt, kv, rfl, rfl, hS, hQ, hK⟩ := I
  unfold wpX_connect
  rcases tb_cl v1 with hb | ⟨c, hc, rfl⟩
  · refine tx_cl0 hb (br_t rfl ?_)
    unfold wpY_connect
    exact ty_cl0 hb (br_t rfl ⟨rfl, R⟩)
  · have hv : vp_in (nI c) 4 := vp_in_nI hc (by decide)
    refine tx_cl1 hc (br_f tb_n10 ⟨hv, ?_⟩)
    unfold wpY_connect
    by_cases z : on (nI c).toNatClampNeg = 0
    · by_cases y : v2 = 0
      · exact br_t z (br_t y ⟨hv, nm_e (ty_cl1 hc (br_f tb_n10 ⟨hv, br_t z (br_t y ⟨hv, nm_e ⟨rfl, tb_mk hS hQ hK⟩⟩)⟩))⟩)
      · exact br_t z (br_f y ⟨hv, nm_e (ty_cl1 hc (br_f tb_n10 ⟨hv, br_t z (br_f y ⟨hv, nm_e ⟨rfl, tb_mk hS hQ hK⟩⟩)⟩))⟩)
    · by_cases y : v2 = 0
      · exact br_f z (br_t y ⟨hv, nm_e (ty_cl1 hc (br_f tb_n10 ⟨hv, br_f z (br_t y ⟨hv, nm_e ⟨rfl, tb_mk hS hQ hK⟩⟩)⟩))⟩)
      · exact br_f z (br_f y ⟨hv, nm_e (ty_cl1 hc (br_f tb_n10 ⟨hv, br_f z (br_f y ⟨hv, nm_e ⟨rfl, tb_mk hS hQ hK⟩⟩)⟩))⟩)
theorem i_vc_firstTopic {k : Nat} {u : SX} {v : SY} (I : i_Rel k u v) (hk : k + 4 ≤ 2048) (v1 : Int32) : wpX_firstTopic (fun r => wpY_firstTopic (fun r' => r' = r ∧ i_Rel (k + 4) u v) v v1) u v1 := by
  have R := i_up I
  obtain ⟨kc, sf, sg, sc, qt, qv, qg, qc, on, lo, kt, kv, rfl, rfl, hS, hQ, hK⟩ := I
  unfold wpX_firstTopic
  rcases tb_cl v1 with hb | ⟨c, hc, rfl⟩
  · refine tx_cl0 hb (br_t rfl ?_)
    unfold wpY_firstTopic
    exact ty_cl0 hb (br_t rfl ⟨rfl, R⟩)
  · have hv : vp_in (nI c) 4 := vp_in_nI hc (by decide)
    obtain ⟨m, hm, em⟩ := hQ c hc
    have hv2 : vp_in (nI (12 * c)) 48 := vp_in_nI (by omega) (by decide)
    refine tx_cl1 hc (br_f tb_n10 ⟨hv, ?_⟩)
    rw [nI_clamp (n := c) (by omega), em, tb_c12]
    unfold wpY_firstTopic
    by_cases z : m = 0
    · refine br_t (by rw [z]; exact nI_le (Nat.le_refl 0) (by decide)) (ty_cl1 hc (br_f tb_n10 ⟨hv, ?_⟩))
      rw [nI_clamp (n := c) (by omega), em, z]
      exact br_t rfl ⟨rfl, R⟩
    · refine br_f (nI_nle (by omega) (by omega)) ⟨hv2, ty_cl1 hc (br_f tb_n10 ⟨hv, ?_⟩)⟩
      rw [nI_clamp (n := c) (by omega), em, tb_12c]
      exact br_f (nI_ne0 (by omega) (by omega)) ⟨hv2, rfl, R⟩
theorem i_vc_firstGrade {k : Nat} {u : SX} {v : SY} (I : i_Rel k u v) (hk : k + 4 ≤ 2048) (v1 : Int32) : wpX_firstGrade (fun r => wpY_firstGrade (fun r' => r' = r ∧ i_Rel (k + 4) u v) v v1) u v1 := by
  have R := i_up I
  obtain ⟨kc, sf, sg, sc, qt, qv, qg, qc, on, lo, kt, kv, rfl, rfl, hS, hQ, hK⟩ := I
  unfold wpX_firstGrade
  rcases tb_cl v1 with hb | ⟨c, hc, rfl⟩
  · refine tx_cl0 hb (br_t rfl ?_)
    unfold wpY_firstGrade
    exact ty_cl0 hb (br_t rfl ⟨rfl, R⟩)
  · have hv : vp_in (nI c) 4 := vp_in_nI hc (by decide)
    obtain ⟨m, hm, em⟩ := hQ c hc
    have hv2 : vp_in (nI (12 * c)) 48 := vp_in_nI (by omega) (by decide)
    refine tx_cl1 hc (br_f tb_n10 ⟨hv, ?_⟩)
    rw [nI_clamp (n := c) (by omega), em, tb_c12]
    unfold wpY_firstGrade
    by_cases z : m = 0
    · refine br_t (by rw [z]; exact nI_le (Nat.le_refl 0) (by decide)) (ty_cl1 hc (br_f tb_n10 ⟨hv, ?_⟩))
      rw [nI_clamp (n := c) (by omega), em, z]
      exact br_t rfl ⟨rfl, R⟩
    · refine br_f (nI_nle (by omega) (by omega)) ⟨hv2, ty_cl1 hc (br_f tb_n10 ⟨hv, ?_⟩)⟩
      rw [nI_clamp (n := c) (by omega), em, tb_12c]
      exact br_f (nI_ne0 (by omega) (by omega)) ⟨hv2, rfl, R⟩

theorem tx_s80 {post : Int32 → SX → Prop} {sf sg sc qt qv qg qc on lo kt kv : Nat → Int32} {c q km : Nat} {f g : Int32} (hc : c < 4) (hq : q < 20) (hf : tb_OK f) (hk : km ≤ 8) (hkt : ∀ i, i < km → tb_OK (kt i)) (hQ : tb_IQ qc)
    (hp : post (tb_sk on kt kv (fun i => tb_Ci f (kt i)) c (tb_mn g 1) km 0 0 (qt, qv, qg, qc, lo)).1 (nI km, sf, upd sg q g, sc, (tb_sk on kt kv (fun i => tb_Ci f (kt i)) c (tb_mn g 1) km 0 0 (qt, qv, qg, qc, lo)).2.1, (tb_sk on kt kv (fun i => tb_Ci f (kt i)) c (tb_mn g 1) km 0 0 (qt, qv, qg, qc, lo)).2.2.1, (tb_sk on kt kv (fun i => tb_Ci f (kt i)) c (tb_mn g 1) km 0 0 (qt, qv, qg, qc, lo)).2.2.2.1, (tb_sk on kt kv (fun i => tb_Ci f (kt i)) c (tb_mn g 1) km 0 0 (qt, qv, qg, qc, lo)).2.2.2.2.1, on, (tb_sk on kt kv (fun i => tb_Ci f (kt i)) c (tb_mn g 1) km 0 0 (qt, qv, qg, qc, lo)).2.2.2.2.2, kt, kv)) :
    wX_subscribe_80 post (nI c) f g (nI q) (nI km) sf sg sc qt qv qg qc on lo kt kv := by
  unfold wX_subscribe_80
  rw [nI_clamp (n := q) (by omega)]
  refine ⟨vp_in_nI hq (by decide), nm_e ?_⟩
  unfold wpX_sendKept
  exact tx_ls ⟨km + 1, tx_sk_l hc hf hk hkt km 0 0 (qt, qv, qg, qc, lo) (by omega) hQ hp⟩
theorem ty_s84 {post : Int32 → SY → Prop} {sf sg sc qt qv qg qc on lo kt kv : Nat → Int32} {c q km : Nat} {f g : Int32} (hc : c < 4) (hq : q < 20) (hf : tb_OK f) (hk : km ≤ 8) (hkt : ∀ i, i < km → tb_OK (kt i)) (hQ : tb_IQ qc)
    (hp : post (tb_sk on kt kv (fun i => tb_Ci f (kt i)) c (tb_mn g 1) km 0 0 (qt, qv, qg, qc, lo)).1 (nI km, upd sf q f, upd sg q g, sc, (tb_sk on kt kv (fun i => tb_Ci f (kt i)) c (tb_mn g 1) km 0 0 (qt, qv, qg, qc, lo)).2.1, (tb_sk on kt kv (fun i => tb_Ci f (kt i)) c (tb_mn g 1) km 0 0 (qt, qv, qg, qc, lo)).2.2.1, (tb_sk on kt kv (fun i => tb_Ci f (kt i)) c (tb_mn g 1) km 0 0 (qt, qv, qg, qc, lo)).2.2.2.1, (tb_sk on kt kv (fun i => tb_Ci f (kt i)) c (tb_mn g 1) km 0 0 (qt, qv, qg, qc, lo)).2.2.2.2.1, (tb_sk on kt kv (fun i => tb_Ci f (kt i)) c (tb_mn g 1) km 0 0 (qt, qv, qg, qc, lo)).2.2.2.2.2, on, kt, kv)) :
    wY_subscribe_84 post (nI c) f g (nI q) (nI km) sf sg sc qt qv qg qc lo on kt kv := by
  have hv : vp_in (nI q) 20 := vp_in_nI hq (by decide)
  unfold wY_subscribe_84
  rw [nI_clamp (n := q) (by omega)]
  exact ⟨hv, nm_e ⟨hv, nm_e ⟨km + 1, ty_sk_l hc hf hk hkt km 0 0 (qt, qv, qg, qc, lo) (by omega) hQ hp⟩⟩⟩
theorem i_vc_subscribe {k : Nat} {u : SX} {v : SY} (I : i_Rel k u v) (hk : k + 4 ≤ 2048) (v1 : Int32) (v2 : Int32) (v3 : Int32) : wpX_subscribe (fun r u' => wpY_subscribe (fun r' v' => r' = r ∧ i_Rel (k + 4) u' v') v v1 v2 v3) u v1 v2 v3 := by
  have R := i_up I
  obtain ⟨kc, sf, sg, sc, qt, qv, qg, qc, on, lo, kt, kv, rfl, rfl, hS, hQ, hK⟩ := I
  unfold wpX_subscribe
  rcases tb_cl v1 with hb | ⟨c, hc, rfl⟩
  · refine tx_cl0 hb (br_t rfl ?_)
    unfold wpY_subscribe
    exact ty_cl0 hb (br_t rfl ⟨rfl, R⟩)
  refine tx_cl1 hc (br_f tb_n10 (tx_isFilter v2 ?_))
  by_cases z : tb_F v2 = true
  · refine br_f (tb_b_ne z) ?_
    rcases tb_gd v3 with hg | ⟨g, hg, rfl⟩
    · refine tx_gd0 hg (br_t rfl ?_)
      unfold wpY_subscribe
      refine ty_cl1 hc (br_f tb_n10 (ty_isFilter v2 (br_f (tb_b_ne z) ?_)))
      by_cases w : v3 < 0
      · exact br_t w ⟨rfl, R⟩
      · exact br_f w (br_f (Int32.not_le.mpr (hg.resolve_left w)) ⟨rfl, R⟩)
    · obtain ⟨m, hm, em, hi⟩ := hS c hc
      obtain ⟨km, hkm, rfl, hkt, hks⟩ := hK
      have hK : tb_IK kt (nI km) := ⟨km, hkm, rfl, hkt, hks⟩
      have hv : vp_in (nI c) 4 := vp_in_nI hc (by decide)
      have hf := tb_F_ok z
      refine tx_gd1 hg (br_f tb_n10 (tx_find hc hm em ?_))
      rcases h : tb_fd sf v2 m (5 * c) with _ | q
      · refine br_t rfl ⟨hv, ?_⟩
        rw [nI_clamp (n := c) (by omega), em]
        refine pk_lt m 5 (fun y => ?_) (fun y => ?_)
        · refine ⟨hv, nm_r (e' := nI (5 * c + m)) (by rw [tb_c5, nI_add]) ⟨vp_in_nI (by omega) (by decide), nm_e ⟨hv, hv, nm_e ?_⟩⟩⟩
          rw [nI_clamp (n := 5 * c + m) (by omega)]
          refine tx_s80 hc (by omega) hf hkm hkt hQ ?_
          unfold wpY_subscribe
          refine ty_cl1 hc (br_f tb_n10 (ty_isFilter v2 (br_f (tb_b_ne z) (br_f (nI_pos (by omega)) (br_t (nI_le (b := 2) hg (by decide)) (ty_find hc hm em ?_))))))
          rw [h]
          refine br_t rfl ⟨hv, ?_⟩
          rw [nI_clamp (n := c) (by omega), em]
          refine br_f (fun w => absurd ((nI_eq (b := 5) (by omega) (by decide)).mp w) (by omega)) (br_t rfl ⟨hv, ?_⟩)
          rw [nI_clamp (n := c) (by omega), em]
          refine nm_r (e' := nI (5 * c + m)) (by rw [tb_5c, nI_add]) ⟨hv, hv, nm_e (ty_s84 hc (by omega) hf hkm hkt hQ ⟨rfl, ?_⟩)⟩
          obtain ⟨n, hn, rfl⟩ := hf
          rw [nI_1 m]
          exact tb_mk (tb_IS_new hS hc em y hn hg) (tb_sk_q hc km 0 0 (qt, qv, qg, qc, lo) hQ) hK
        · unfold wpY_subscribe
          refine ty_cl1 hc (br_f tb_n10 (ty_isFilter v2 (br_f (tb_b_ne z) (br_f (nI_pos (by omega)) (br_t (nI_le (b := 2) hg (by decide)) (ty_find hc hm em ?_))))))
          rw [h]
          refine br_t rfl ⟨hv, ?_⟩
          rw [nI_clamp (n := c) (by omega), em]
          exact br_t (by rw [show m = 5 by omega]; rfl) ⟨rfl, R⟩
      · obtain ⟨h1, h2, h3⟩ := tb_fd_some h
        refine br_f (tb_nm1 (by omega)) (tx_s80 hc (by omega) hf hkm hkt hQ ?_)
        unfold wpY_subscribe
        refine ty_cl1 hc (br_f tb_n10 (ty_isFilter v2 (br_f (tb_b_ne z) (br_f (nI_pos (by omega)) (br_t (nI_le (b := 2) hg (by decide)) (ty_find hc hm em ?_))))))
        rw [h]
        refine br_f (tb_nm4 (by omega)) (br_f (tb_nm4 (by omega)) (ty_s84 hc (by omega) hf hkm hkt hQ ⟨rfl, ?_⟩))
        rw [tb_uid h3]
        exact tb_mk (tb_IS_g hS hg) (tb_sk_q hc km 0 0 (qt, qv, qg, qc, lo) hQ) hK
  · refine br_t (tb_b_eq z) ?_
    unfold wpY_subscribe
    exact ty_cl1 hc (br_f tb_n10 (ty_isFilter v2 (br_t (tb_b_eq z) ⟨rfl, R⟩)))
theorem i_vc_unsubscribe {k : Nat} {u : SX} {v : SY} (I : i_Rel k u v) (hk : k + 4 ≤ 2048) (v1 : Int32) (v2 : Int32) : wpX_unsubscribe (fun r u' => wpY_unsubscribe (fun r' v' => r' = r ∧ i_Rel (k + 4) u' v') v v1 v2) u v1 v2 := by
  have R := i_up I
  obtain ⟨kc, sf, sg, sc, qt, qv, qg, qc, on, lo, kt, kv, rfl, rfl, hS, hQ, hK⟩ := I
  unfold wpX_unsubscribe
  rcases tb_cl v1 with hb | ⟨c, hc, rfl⟩
  · refine tx_cl0 hb (br_t rfl ?_)
    unfold wpY_unsubscribe
    exact ty_cl0 hb (br_t rfl ⟨rfl, R⟩)
  refine tx_cl1 hc (br_f tb_n10 (tx_isFilter v2 ?_))
  by_cases z : tb_F v2 = true
  · obtain ⟨m, hm, em, hi⟩ := hS c hc
    have hv : vp_in (nI c) 4 := vp_in_nI hc (by decide)
    refine br_f (tb_b_ne z) (tx_find hc hm em ?_)
    rcases h : tb_fd sf v2 m (5 * c) with _ | q
    · refine br_t rfl ?_
      unfold wpY_unsubscribe
      refine ty_cl1 hc (br_f tb_n10 (ty_isFilter v2 (br_f (tb_b_ne z) (ty_find hc hm em ?_))))
      rw [h]
      exact br_t rfl ⟨rfl, R⟩
    · obtain ⟨h1, h2, h3⟩ := tb_fd_some h
      have hvq : vp_in (nI q) 20 := vp_in_nI (by omega) (by decide)
      refine br_f (tb_nm1 (by omega)) ⟨hvq, nm_e ?_⟩
      unfold wpX_removeSubscription
      refine And.intro hv (nm_r (e' := nI (5 * c + m - 1)) ?_ ⟨5 * c + m - 1 - q + 1, tx_rs_l hc (by omega) hm em (5 * c + m - 1 - q) q _ _ (by omega) ?_⟩)
      · rw [nI_clamp (n := c) (by omega), em, tb_c5, nI_add]
        exact pk_sub (b := 1) (by omega)
      · show wpY_unsubscribe _ _ _ _
        unfold wpY_unsubscribe
        refine ty_cl1 hc (br_f tb_n10 (ty_isFilter v2 (br_f (tb_b_ne z) (ty_find hc hm em ?_))))
        rw [h]
        refine br_f (tb_nm4 (by omega)) ⟨hvq, nm_e ⟨hv, hv, ?_⟩⟩
        rw [nI_clamp (n := c) (by omega), em]
        exact nm_r (congrArg (upd sc c) (pk_sub (b := 1) (by omega))) ⟨5 * c + m - 1 - q + 1, ty_rs_l hc (by omega) pk_us (5 * c + m - 1 - q) q _ _ (by omega) ⟨rfl, tb_mk (tb_IS_rem hS hc em hm h1 h2) hQ hK⟩⟩
  · refine br_t (tb_b_eq z) ?_
    unfold wpY_unsubscribe
    exact ty_cl1 hc (br_f tb_n10 (ty_isFilter v2 (br_t (tb_b_eq z) ⟨rfl, R⟩)))

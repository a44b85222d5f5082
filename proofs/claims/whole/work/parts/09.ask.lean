theorem i_vc_kept {k : Nat} {u : SX} {v : SY} (I : i_Rel k u v) (hk : k + 4 ≤ 2048) (v1 : Int32) : wpX_kept (fun r => wpY_kept (fun r' => r' = r ∧ i_Rel (k + 4) u v) v v1) u v1 := by
  have R := i_up I
  obtain ⟨kc, sf, sg, sc, qt, qv, qg, qc, on, lo, kt, kv, rfl, rfl, hS, hQ, hK⟩ := I
  obtain ⟨km, hkm, rfl, hkt, hks⟩ := hK
  unfold wpX_kept
  refine tx_isFilter v1 ?_
  by_cases z : tb_F v1 = true
  · refine br_f (tb_b_ne z) ⟨km + 1, tx_kc_l (kc := nI km) (tb_F_ok z) hkm hkt km 0 0 (by omega) ?_⟩
    unfold wpY_kept
    exact ty_isFilter v1 (br_f (tb_b_ne z) ⟨km + 1, ty_kc_l (kc := nI km) (tb_F_ok z) hkm hkt km 0 0 (by omega) ⟨rfl, R⟩⟩)
  · refine br_t (tb_b_eq z) ?_
    unfold wpY_kept
    exact ty_isFilter v1 (br_t (tb_b_eq z) ⟨rfl, R⟩)
theorem i_vc_reached {k : Nat} {u : SX} {v : SY} (I : i_Rel k u v) (hk : k + 4 ≤ 2048) (v1 : Int32) : wpX_reached (fun r => wpY_reached (fun r' => r' = r ∧ i_Rel (k + 4) u v) v v1) u v1 := by
  have R := i_up I
  obtain ⟨kc, sf, sg, sc, qt, qv, qg, qc, on, lo, kt, kv, rfl, rfl, hS, hQ, hK⟩ := I
  unfold wpX_reached
  refine tx_isTopic v1 ?_
  by_cases z : tb_T v1 = true
  · obtain ⟨t, ht, rfl⟩ := tb_T_ok z
    refine br_f (tb_b_ne z) ⟨5, tx_rc_l ht hS 4 0 0 rfl ?_⟩
    unfold wpY_reached
    exact ty_isTopic (nI t) (br_f (tb_b_ne z) ⟨5, ty_rc_l ht hS 4 0 0 rfl ⟨rfl, R⟩⟩)
  · refine br_t (tb_b_eq z) ?_
    unfold wpY_reached
    exact ty_isTopic v1 (br_t (tb_b_eq z) ⟨rfl, R⟩)
theorem i_vc_breadth {k : Nat} {u : SX} {v : SY} (I : i_Rel k u v) (hk : k + 4 ≤ 2048) (v1 : Int32) : wpX_breadth (fun r => wpY_breadth (fun r' => r' = r ∧ i_Rel (k + 4) u v) v v1) u v1 := by
  have R := i_up I
  obtain ⟨kc, sf, sg, sc, qt, qv, qg, qc, on, lo, kt, kv, rfl, rfl, hS, hQ, hK⟩ := I
  unfold wpX_breadth
  rcases tb_cl v1 with hb | ⟨c, hc, rfl⟩
  · refine tx_cl0 hb (br_t rfl ?_)
    unfold wpY_breadth
    exact ty_cl0 hb (br_t rfl ⟨rfl, R⟩)
  · have hv : vp_in (nI c) 4 := vp_in_nI hc (by decide)
    obtain ⟨m, hm, em, hi⟩ := hS c hc
    refine tx_cl1 hc (br_f tb_n10 ⟨4095 + 1, tx_wd_l hc hS 4095 1 0 (by omega) ?_⟩)
    unfold wpY_breadth
    refine ty_cl1 hc (br_f tb_n10 ?_)
    by_cases z : m = 0
    · have e0 : sc c = 0 := by
        rw [em, z]
        rfl
      rw [tb_kc_f (fun i => tb_wd_0 e0 i)]
      refine ⟨1, br_f (by decide) ⟨hv, ?_⟩⟩
      rw [nI_clamp (n := c) (by omega), e0]
      exact br_t (by decide) ⟨rfl, R⟩
    · exact ⟨4095 + 1, ty_wd_l hc hS em (by omega) hm 4095 1 0 (by omega) ⟨rfl, R⟩⟩
theorem i_vc_take {k : Nat} {u : SX} {v : SY} (I : i_Rel k u v) (hk : k + 4 ≤ 2048) (v1 : Int32) : wpX_take (fun r u' => wpY_take (fun r' v' => r' = r ∧ i_Rel (k + 4) u' v') v v1) u v1 := by
  have R := i_up I
  obtain ⟨kc, sf, sg, sc, qt, qv, qg, qc, on, lo, kt, kv, rfl, rfl, hS, hQ, hK⟩ := I
  unfold wpX_take
  rcases tb_cl v1 with hb | ⟨c, hc, rfl⟩
  · refine tx_cl0 hb (br_t rfl ?_)
    unfold wpY_take
    exact ty_cl0 hb (br_t rfl ⟨rfl, R⟩)
  · have hv : vp_in (nI c) 4 := vp_in_nI hc (by decide)
    obtain ⟨m, hm, em⟩ := hQ c hc
    have hv2 : vp_in (nI (12 * c)) 48 := vp_in_nI (by omega) (by decide)
    refine tx_cl1 hc (br_f tb_n10 ⟨hv, ?_⟩)
    rw [nI_clamp (n := c) (by omega), em, tb_c12, nI_clamp (n := 12 * c) (by omega)]
    by_cases z : on c = 0
    · refine br_t z ?_
      unfold wpY_take
      refine ty_cl1 hc (br_f tb_n10 ⟨hv, ?_⟩)
      rw [nI_clamp (n := c) (by omega)]
      exact br_t z ⟨rfl, R⟩
    · refine br_f z ⟨hv, ?_⟩
      by_cases y : m = 0
      · refine br_t (by rw [y]; rfl) ?_
        unfold wpY_take
        refine ty_cl1 hc (br_f tb_n10 ⟨hv, ?_⟩)
        rw [nI_clamp (n := c) (by omega), em]
        exact br_f z ⟨hv, br_t (by rw [y]; rfl) ⟨rfl, R⟩⟩
      · have hne : ¬ nI m = 0 := nI_ne0 (by omega) (by omega)
        refine br_f hne ⟨hv2, nm_e ?_⟩
        unfold wpX_removeFirst
        refine nm_r (tb_c12 c) ⟨hv, nm_r (e' := nI (12 * c + m - 1)) ?_ ⟨m - 1 + 1, tx_rf_l hc (by omega) hm em (m - 1) (12 * c) _ _ _ (by omega) ?_⟩⟩
        · rw [nI_clamp (n := c) (by omega), em, nI_add]
          exact pk_sub (b := 1) (by omega)
        · show wpY_take _ _ _
          unfold wpY_take
          refine ty_cl1 hc (br_f tb_n10 ⟨hv, ?_⟩)
          rw [nI_clamp (n := c) (by omega), em, tb_12c, nI_clamp (n := 12 * c) (by omega)]
          refine br_f z ⟨hv, br_f hne ⟨hv2, nm_e ⟨hv, hv, nm_r (congrArg (upd qc c) (pk_sub (b := 1) (by omega))) (nm_e ⟨m - 1 + 1, ty_rf_l hc (by omega) pk_us (m - 1) (12 * c) _ _ _ (by omega) ⟨rfl, tb_mk hS (tb_IQ_u hQ (by omega)) hK⟩⟩)⟩⟩⟩
theorem i_vc_publish {k : Nat} {u : SX} {v : SY} (I : i_Rel k u v) (hk : k + 4 ≤ 2048) (v1 : Int32) (v2 : Int32) (v3 : Int32) : wpX_publish (fun r u' => wpY_publish (fun r' v' => r' = r ∧ i_Rel (k + 4) u' v') v v1 v2 v3) u v1 v2 v3 := by
  have R := i_up I
  obtain ⟨kc, sf, sg, sc, qt, qv, qg, qc, on, lo, kt, kv, rfl, rfl, hS, hQ, hK⟩ := I
  unfold wpX_publish
  refine tx_isTopic v1 ?_
  by_cases z : tb_T v1 = true
  · obtain ⟨t, ht, rfl⟩ := tb_T_ok z
    refine br_f (tb_b_ne z) ?_
    rcases tb_gd v3 with hg | ⟨g, hg, rfl⟩
    · refine tx_gd0 hg (br_t rfl ?_)
      unfold wpY_publish
      refine ty_isTopic (nI t) (br_f (tb_b_ne z) ?_)
      by_cases w : v3 < 0
      · exact br_t w ⟨rfl, R⟩
      · exact br_f w (br_f (Int32.not_le.mpr (hg.resolve_left w)) ⟨rfl, R⟩)
    · refine tx_gd1 hg (br_f tb_n10 ⟨5, tx_pb_l ht hS 4 0 0 (qt, qv, qg, qc, lo) rfl hQ ?_⟩)
      unfold wpY_publish
      exact ty_isTopic (nI t) (br_f (tb_b_ne z) (br_f (nI_pos (by omega)) (br_t (nI_le (b := 2) hg (by decide)) ⟨5, ty_pb_l ht hS 4 0 0 (qt, qv, qg, qc, lo) rfl hQ ⟨rfl, tb_mk hS (tb_pb_q 4 0 0 (qt, qv, qg, qc, lo) rfl hQ) hK⟩⟩)))
  · refine br_t (tb_b_eq z) ?_
    unfold wpY_publish
    exact ty_isTopic v1 (br_t (tb_b_eq z) ⟨rfl, R⟩)

theorem tx_ik {post : SX → Prop} {sf sg sc qt qv qg qc on lo kt kv : Nat → Int32} {t v : Int32} {km p : Nat} (hpm : p ≤ km) (hk : km < 8) (h1 : ∀ j, j < p → kt j < t) (h2 : ∀ j, p ≤ j → j < km → t < kt j)
    (hp : post (nI (km + 1), sf, sg, sc, qt, qv, qg, qc, on, lo, upd (tb_su (km - p) p kt) p t, upd (tb_su (km - p) p kv) p v)) : wpX_insertKept post (nI km, sf, sg, sc, qt, qv, qg, qc, on, lo, kt, kv) t v := by
  rw [← nI_1 km] at hp
  have q := tx_ik_l (post := post) (p := p) (km - p) kt kv (by omega) h1 (fun j a b => h2 j a (by omega)) hp
  rw [show p + (km - p) = km by omega] at q
  exact Exists.intro (km - p + 1) q
theorem ty_ik {post : Int32 → SY → Prop} {sf sg sc qt qv qg qc on lo kt kv : Nat → Int32} {t v : Int32} {km p : Nat} (hpm : p ≤ km) (hk : km < 8)
    (hp : post 0 (nI (km + 1), sf, sg, sc, qt, qv, qg, qc, lo, on, upd (tb_su (km - p) p kt) p t, upd (tb_su (km - p) p kv) p v)) : wY_keep_43 post t v (nI p) (nI km) sf sg sc qt qv qg qc lo on kt kv := by
  rw [← nI_1 km] at hp
  have q := ty_ik_l (post := post) (p := p) (km - p) kt kv (by omega) hp
  rw [show p + (km - p) = km by omega] at q
  exact br_f (fun w => absurd ((nI_eq (b := 8) (by omega) (by decide)).mp w) (by omega)) (Exists.intro (km - p + 1) q)
theorem tb_ne_of_lt {a b : Int32} (h : a < b) : ¬ b = a := fun e => Int32.lt_irrefl (e ▸ h : a < a)
theorem i_vc_keep {k : Nat} {u : SX} {v : SY} (I : i_Rel k u v) (hk : k + 4 ≤ 2048) (v1 : Int32) (v2 : Int32) : wpX_keep (fun r u' => wpY_keep (fun r' v' => r' = r ∧ i_Rel (k + 4) u' v') v v1 v2) u v1 v2 := by
  have R := i_up I
  obtain ⟨kc, sf, sg, sc, qt, qv, qg, qc, on, lo, kt, kv, rfl, rfl, hS, hQ, hK⟩ := I
  unfold wpX_keep
  refine tx_isTopic v1 ?_
  by_cases z : tb_T v1 = true
  · obtain ⟨km, hkm, rfl, hkt, hks⟩ := hK
    have hK : tb_IK kt (nI km) := ⟨km, hkm, rfl, hkt, hks⟩
    refine br_f (tb_b_ne z) (tx_fk (kc := nI km) hkm ?_)
    rcases h : tb_fd kt v1 km 0 with _ | q
    · obtain ⟨hpm, h1, h2⟩ := tb_fp_none hks h
      refine br_t rfl (pk_lt km 8 (fun y => ?_) (fun y => ?_))
      · refine tx_ik hpm y h1 h2 ?_
        show wpY_keep _ _ _ _
        unfold wpY_keep
        refine ty_isTopic v1 (br_f (tb_b_ne z) (ty_kp (kc := nI km) hkm ?_))
        have hR : i_Rel (k + 4) (nI (km + 1), sf, sg, sc, qt, qv, qg, qc, on, lo, upd (tb_su (km - tb_pl kt v1 km 0) (tb_pl kt v1 km 0) kt) (tb_pl kt v1 km 0) v1, upd (tb_su (km - tb_pl kt v1 km 0) (tb_pl kt v1 km 0) kv) (tb_pl kt v1 km 0) v2) (nI (km + 1), sf, sg, sc, qt, qv, qg, qc, lo, on, upd (tb_su (km - tb_pl kt v1 km 0) (tb_pl kt v1 km 0) kt) (tb_pl kt v1 km 0) v1, upd (tb_su (km - tb_pl kt v1 km 0) (tb_pl kt v1 km 0) kv) (tb_pl kt v1 km 0) v2) := by
          refine tb_mk hS hQ ?_
          obtain ⟨n, hn, rfl⟩ := tb_T_ok z
          exact tb_IK_ins y hpm hkt hks hn h1 h2
        refine pk_le km (tb_pl kt v1 km 0) (fun _ => ty_ik hpm y ⟨rfl, hR⟩) (fun w => ⟨vp_in_nI (by omega) (by decide), ?_⟩)
        rw [nI_clamp (n := tb_pl kt v1 km 0) (by omega)]
        exact br_f (tb_ne_of_lt (h2 _ (Nat.le_refl _) w)) (ty_ik hpm y ⟨rfl, hR⟩)
      · unfold wpY_keep
        refine ty_isTopic v1 (br_f (tb_b_ne z) (ty_kp (kc := nI km) hkm ?_))
        have e8 : nI km = 8 := by
          rw [show km = 8 by omega]
          rfl
        refine pk_le km (tb_pl kt v1 km 0) (fun _ => br_t e8 ⟨rfl, R⟩) (fun w => ⟨vp_in_nI (by omega) (by decide), ?_⟩)
        rw [nI_clamp (n := tb_pl kt v1 km 0) (by omega)]
        exact br_f (tb_ne_of_lt (h2 _ (Nat.le_refl _) w)) (br_t e8 ⟨rfl, R⟩)
    · obtain ⟨h1, h2, h3⟩ := tb_fp_some hks h
      have hvq : vp_in (nI q) 8 := vp_in_nI (by omega) (by decide)
      refine br_f (tb_nm1 (by omega)) ⟨hvq, ?_⟩
      rw [show (tb_ov (-1) (some q)).toNatClampNeg = q from nI_clamp (by omega)]
      refine nm_e ?_
      unfold wpY_keep
      refine ty_isTopic v1 (br_f (tb_b_ne z) (ty_kp (kc := nI km) hkm ?_))
      rw [h1]
      refine br_f (nI_ge h2 (by omega)) ⟨hvq, ?_⟩
      rw [nI_clamp (n := q) (by omega)]
      exact br_t h3 ⟨hvq, nm_e ⟨rfl, tb_mk hS hQ hK⟩⟩
  · refine br_t (tb_b_eq z) ?_
    unfold wpY_keep
    exact ty_isTopic v1 (br_t (tb_b_eq z) ⟨rfl, R⟩)
theorem i_vc_forget {k : Nat} {u : SX} {v : SY} (I : i_Rel k u v) (hk : k + 4 ≤ 2048) (v1 : Int32) : wpX_forget (fun r u' => wpY_forget (fun r' v' => r' = r ∧ i_Rel (k + 4) u' v') v v1) u v1 := by
  have R := i_up I
  obtain ⟨kc, sf, sg, sc, qt, qv, qg, qc, on, lo, kt, kv, rfl, rfl, hS, hQ, hK⟩ := I
  unfold wpX_forget
  refine tx_isTopic v1 ?_
  by_cases z : tb_T v1 = true
  · obtain ⟨km, hkm, rfl, hkt, hks⟩ := hK
    refine br_f (tb_b_ne z) (tx_fk (kc := nI km) hkm ?_)
    rcases h : tb_fd kt v1 km 0 with _ | q
    · obtain ⟨hpm, h1, h2⟩ := tb_fp_none hks h
      refine br_t rfl ?_
      unfold wpY_forget
      refine ty_isTopic v1 (br_f (tb_b_ne z) (ty_kp (kc := nI km) hkm ?_))
      refine pk_eq (tb_pl kt v1 km 0) km (fun _ => ⟨rfl, R⟩) (fun w => ⟨vp_in_nI (by omega) (by decide), ?_⟩)
      rw [nI_clamp (n := tb_pl kt v1 km 0) (by omega)]
      exact br_f (tb_ne_of_lt (h2 _ (Nat.le_refl _) (by omega))) ⟨rfl, R⟩
    · obtain ⟨h1, h2, h3⟩ := tb_fp_some hks h
      have hvq : vp_in (nI q) 8 := vp_in_nI (by omega) (by decide)
      refine br_f (tb_nm1 (by omega)) ?_
      unfold wpX_removeKept
      refine Exists.intro (km - 1 - q + 1) (tx_rk_l (by omega) hkm (km - 1 - q) q _ _ (by omega) ?_)
      show wpY_forget _ _ _
      unfold wpY_forget
      refine ty_isTopic v1 (br_f (tb_b_ne z) (ty_kp (kc := nI km) hkm ?_))
      rw [h1]
      refine br_f (fun w => absurd ((nI_eq (by omega) (by omega)).mp w) (by omega)) ⟨hvq, ?_⟩
      rw [nI_clamp (n := q) (by omega)]
      exact br_t h3 (nm_r (pk_sub (b := 1) (by omega)) ⟨km - 1 - q + 1, ty_rk_l (by omega) (km - 1 - q) q _ _ (by omega) ⟨rfl, tb_mk hS hQ (tb_IK_rem hkm h2 hkt hks)⟩⟩)
  · refine br_t (tb_b_eq z) ?_
    unfold wpY_forget
    exact ty_isTopic v1 (br_t (tb_b_eq z) ⟨rfl, R⟩)

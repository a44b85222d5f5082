def tb_OK (x : Int32) : Prop := ∃ n, tb_ok n ∧ x = nI n
theorem tx_cov {post : Int32 → Prop} {x y : Int32} (hx : tb_OK x) (hy : tb_OK y) (hp : post (tb_b (tb_Ci x y))) : wpX_covers post x y := by
  obtain ⟨f, hf, rfl⟩ := hx
  obtain ⟨t, ht, rfl⟩ := hy
  rw [tb_Ci_n hf ht rfl] at hp
  exact tx_covers hf ht hp
theorem ty_fit {post : Int32 → Prop} {kc : Int32} {sf sg sc qt qv qg qc on lo kt kv : Nat → Int32} {x y : Int32} (hx : tb_OK x) (hy : tb_OK y) (hp : post (tb_b (tb_Ci x y))) : wpY_fits post (kc, sf, sg, sc, qt, qv, qg, qc, lo, on, kt, kv) x y := by
  obtain ⟨f, hf, rfl⟩ := hx
  obtain ⟨t, ht, rfl⟩ := hy
  rw [tb_Ci_n hf ht rfl] at hp
  exact ty_fits hf ht hp
theorem tb_b_ne {b : Bool} (h : b = true) : ¬ tb_b b = 0 := by rw [h]; decide
theorem tb_b_eq {b : Bool} (h : ¬ b = true) : tb_b b = 0 := by rw [Bool.eq_false_iff.mpr h]; rfl
theorem tx_ls {post : Int32 → Prop} {a b : Int32} (hp : post (tb_mn a b)) : wpX_lesser post a b := by
  unfold tb_mn at hp
  by_cases z : b ≤ a
  · rw [if_pos z] at hp
    exact br_t z hp
  · rw [if_neg z] at hp
    exact br_f z hp
theorem tx_dv {post : Int32 → SX → Prop} {kc : Int32} {sf sg sc on kt kv : Nat → Int32} {s : tb_Q} {c : Nat} (hc : c < 4) (hq : tb_IQ s.2.2.2.1) (t v g : Int32)
    (hp : post (tb_b (tb_dr on c g s)) (kc, sf, sg, sc, (tb_dv on c t v g s).1, (tb_dv on c t v g s).2.1, (tb_dv on c t v g s).2.2.1, (tb_dv on c t v g s).2.2.2.1, on, (tb_dv on c t v g s).2.2.2.2, kt, kv)) : wpX_deliver post (kc, sf, sg, sc, s.1, s.2.1, s.2.2.1, s.2.2.2.1, on, s.2.2.2.2, kt, kv) (nI c) t v g := by
  obtain ⟨m, hm, e⟩ := hq c hc
  have hv : vp_in (nI c) 4 := vp_in_nI hc (by decide)
  have K : ¬ (on c = 0 ∧ g = 0) → wX_deliver_16 post (nI c) t v g kc sf sg sc s.1 s.2.1 s.2.2.1 s.2.2.2.1 on s.2.2.2.2 kt kv := by
    intro w
    refine And.intro hv ?_
    rw [nI_clamp (n := c) (by omega), e]
    refine pk_lt m 12 (fun y => ?_) (fun y => ?_)
    · have n12 : ¬ s.2.2.2.1 c = 12 := fun a => absurd ((nI_eq (b := 12) (by omega) (by decide)).mp (e.symm.trans a)) (by omega)
      have er : tb_dr on c g s = true := by
        unfold tb_dr
        rw [if_neg w, if_neg n12]
      have ev : tb_dv on c t v g s = (upd s.1 (12 * c + m) t, upd s.2.1 (12 * c + m) v, upd s.2.2.1 (12 * c + m) g, upd s.2.2.2.1 c (nI m + 1), s.2.2.2.2) := by
        unfold tb_dv
        rw [if_neg w, if_neg n12, e, nI_clamp (by omega)]
      rw [er, ev] at hp
      have hv2 : vp_in (nI (12 * c + m)) 48 := vp_in_nI (by omega) (by decide)
      refine ⟨hv, nm_r (e' := nI (12 * c + m)) (by rw [tb_c12, nI_add]) ⟨hv2, nm_e ⟨hv2, nm_e ⟨hv2, nm_e ⟨hv, hv, nm_e ?_⟩⟩⟩⟩⟩
      rw [nI_clamp (n := 12 * c + m) (by omega)]
      exact hp
    · have n12 : s.2.2.2.1 c = 12 := by
        rw [e, show m = 12 by omega]
        rfl
      have er : tb_dr on c g s = false := by
        unfold tb_dr
        rw [if_neg w, if_pos n12]
      have ev : tb_dv on c t v g s = (s.1, s.2.1, s.2.2.1, s.2.2.2.1, upd s.2.2.2.2 c (s.2.2.2.2 c + 1)) := by
        unfold tb_dv
        rw [if_neg w, if_pos n12]
      rw [er, ev] at hp
      exact ⟨hv, hv, nm_e hp⟩
  unfold wpX_deliver
  refine And.intro hv ?_
  rw [nI_clamp (n := c) (by omega)]
  by_cases z : on c = 0
  · refine br_t z ?_
    by_cases y : g = 0
    · have er : tb_dr on c g s = false := by
        unfold tb_dr
        rw [if_pos ⟨z, y⟩]
      have ev : tb_dv on c t v g s = s := by
        unfold tb_dv
        rw [if_pos ⟨z, y⟩]
      rw [er, ev] at hp
      exact br_t y hp
    · exact br_f y (K (fun w => y w.2))
  · exact br_f z (K (fun w => z w.1))
theorem ty_dv {post : Int32 → SY → Prop} {kc : Int32} {sf sg sc on kt kv : Nat → Int32} {s : tb_Q} {c : Nat} (hc : c < 4) (hq : tb_IQ s.2.2.2.1) (t v g : Int32)
    (hp : post (tb_b (tb_dr on c g s)) (kc, sf, sg, sc, (tb_dv on c t v g s).1, (tb_dv on c t v g s).2.1, (tb_dv on c t v g s).2.2.1, (tb_dv on c t v g s).2.2.2.1, (tb_dv on c t v g s).2.2.2.2, on, kt, kv)) : wpY_send post (kc, sf, sg, sc, s.1, s.2.1, s.2.2.1, s.2.2.2.1, s.2.2.2.2, on, kt, kv) (nI c) t v g := by
  obtain ⟨m, hm, e⟩ := hq c hc
  have hv : vp_in (nI c) 4 := vp_in_nI hc (by decide)
  have K : ¬ (on c = 0 ∧ g = 0) → wY_send_16 post (nI c) t v g kc sf sg sc s.1 s.2.1 s.2.2.1 s.2.2.2.1 s.2.2.2.2 on kt kv := by
    intro w
    refine And.intro hv ?_
    rw [nI_clamp (n := c) (by omega), e]
    refine pk_eq m 12 (fun y => ?_) (fun y => ?_)
    · have n12 : s.2.2.2.1 c = 12 := by
        rw [e, y]
        rfl
      have er : tb_dr on c g s = false := by
        unfold tb_dr
        rw [if_neg w, if_pos n12]
      have ev : tb_dv on c t v g s = (s.1, s.2.1, s.2.2.1, s.2.2.2.1, upd s.2.2.2.2 c (s.2.2.2.2 c + 1)) := by
        unfold tb_dv
        rw [if_neg w, if_pos n12]
      rw [er, ev] at hp
      exact ⟨hv, hv, nm_e hp⟩
    · have n12 : ¬ s.2.2.2.1 c = 12 := fun a => absurd ((nI_eq (b := 12) (by omega) (by decide)).mp (e.symm.trans a)) (by omega)
      have er : tb_dr on c g s = true := by
        unfold tb_dr
        rw [if_neg w, if_neg n12]
      have ev : tb_dv on c t v g s = (upd s.1 (12 * c + m) t, upd s.2.1 (12 * c + m) v, upd s.2.2.1 (12 * c + m) g, upd s.2.2.2.1 c (nI m + 1), s.2.2.2.2) := by
        unfold tb_dv
        rw [if_neg w, if_neg n12, e, nI_clamp (by omega)]
      rw [er, ev] at hp
      have hv2 : vp_in (nI (12 * c + m)) 48 := vp_in_nI (by omega) (by decide)
      refine ⟨hv, nm_r (e' := nI (12 * c + m)) (by rw [tb_12c, nI_add]) ⟨hv2, nm_e ⟨hv2, nm_e ⟨hv2, nm_e ⟨hv, hv, nm_e ?_⟩⟩⟩⟩⟩
      rw [nI_clamp (n := 12 * c + m) (by omega)]
      exact hp
  unfold wpY_send
  refine And.intro hv ?_
  rw [nI_clamp (n := c) (by omega)]
  by_cases z : on c = 0
  · refine br_t z ?_
    by_cases y : g = 0
    · have er : tb_dr on c g s = false := by
        unfold tb_dr
        rw [if_pos ⟨z, y⟩]
      have ev : tb_dv on c t v g s = s := by
        unfold tb_dv
        rw [if_pos ⟨z, y⟩]
      rw [er, ev] at hp
      exact br_t y hp
    · exact br_f y (K (fun w => y w.2))
  · exact br_f z (K (fun w => z w.1))
theorem tx_sk_l {post : Int32 → SX → Prop} {sf sg sc on kt kv : Nat → Int32} {c km : Nat} {f g : Int32} (hc : c < 4) (hf : tb_OK f) (hk : km ≤ 8) (hkt : ∀ i, i < km → tb_OK (kt i)) :
    ∀ k i n (s : tb_Q), i + k = km → tb_IQ s.2.2.2.1 → post (tb_sk on kt kv (fun i => tb_Ci f (kt i)) c g k i n s).1 (nI km, sf, sg, sc, (tb_sk on kt kv (fun i => tb_Ci f (kt i)) c g k i n s).2.1, (tb_sk on kt kv (fun i => tb_Ci f (kt i)) c g k i n s).2.2.1, (tb_sk on kt kv (fun i => tb_Ci f (kt i)) c g k i n s).2.2.2.1, (tb_sk on kt kv (fun i => tb_Ci f (kt i)) c g k i n s).2.2.2.2.1, on, (tb_sk on kt kv (fun i => tb_Ci f (kt i)) c g k i n s).2.2.2.2.2, kt, kv) →
    wX_sendKept_13 post (nI c) f g (k + 1) n (nI i) (nI km) sf sg sc s.1 s.2.1 s.2.2.1 s.2.2.2.1 on s.2.2.2.2 kt kv := by
  intro k
  induction k with
  | zero => exact fun i n s hi hq hp => br_t (nI_le (by omega) (by omega)) hp
  | succ k ih =>
    intro i n s hi hq hp
    have hv : vp_in (nI i) 8 := vp_in_nI (by omega) (by decide)
    refine br_f (nI_ge (by omega) (by omega)) ⟨hv, ?_⟩
    rw [nI_clamp (n := i) (by omega)]
    refine tx_cov hf (hkt i (by omega)) ?_
    by_cases y : tb_Ci f (kt i) = true
    · rw [tb_sk, if_pos y] at hp
      exact br_f (tb_b_ne y) ⟨hv, hv, tx_dv hc hq _ _ _ (nm_e (nm_r (nI_1 i) (ih (i + 1) (n + 1) _ (by omega) (tb_dv_q hc hq) hp)))⟩
    · rw [tb_sk, if_neg y] at hp
      exact br_t (tb_b_eq y) (nm_r (nI_1 i) (ih (i + 1) n s (by omega) hq hp))
theorem ty_sk_l {post : Int32 → SY → Prop} {sf sg sc on kt kv : Nat → Int32} {c km : Nat} {f g : Int32} (hc : c < 4) (hf : tb_OK f) (hk : km ≤ 8) (hkt : ∀ i, i < km → tb_OK (kt i)) :
    ∀ k i n (s : tb_Q), i + k = km → tb_IQ s.2.2.2.1 → post (tb_sk on kt kv (fun i => tb_Ci f (kt i)) c (tb_mn g 1) k i n s).1 (nI km, sf, sg, sc, (tb_sk on kt kv (fun i => tb_Ci f (kt i)) c (tb_mn g 1) k i n s).2.1, (tb_sk on kt kv (fun i => tb_Ci f (kt i)) c (tb_mn g 1) k i n s).2.2.1, (tb_sk on kt kv (fun i => tb_Ci f (kt i)) c (tb_mn g 1) k i n s).2.2.2.1, (tb_sk on kt kv (fun i => tb_Ci f (kt i)) c (tb_mn g 1) k i n s).2.2.2.2.1, (tb_sk on kt kv (fun i => tb_Ci f (kt i)) c (tb_mn g 1) k i n s).2.2.2.2.2, on, kt, kv) →
    wY_subscribe_106 post (nI c) f g (k + 1) n (nI i) (nI km) sf sg sc s.1 s.2.1 s.2.2.1 s.2.2.2.1 s.2.2.2.2 on kt kv := by
  intro k
  induction k with
  | zero => exact fun i n s hi hq hp => br_t (nI_le (by omega) (by omega)) hp
  | succ k ih =>
    intro i n s hi hq hp
    have hv : vp_in (nI i) 8 := vp_in_nI (by omega) (by decide)
    refine br_f (nI_ge (by omega) (by omega)) ⟨hv, ?_⟩
    rw [nI_clamp (n := i) (by omega)]
    refine ty_fit hf (hkt i (by omega)) ?_
    by_cases y : tb_Ci f (kt i) = true
    · rw [tb_sk, if_pos y] at hp
      refine br_f (tb_b_ne y) ⟨hv, hv, ?_⟩
      have K : wY_subscribe_156 post (wY_subscribe_106 post (nI c) f g (k + 1)) (nI c) f g n (nI i) (tb_mn g 1) (kv i) (kt i) (nI c) (nI km) sf sg sc s.1 s.2.1 s.2.2.1 s.2.2.2.1 s.2.2.2.2 on kt kv := by
        unfold wY_subscribe_156
        exact ty_dv hc hq _ _ _ (nm_e (nm_r (nI_1 i) (ih (i + 1) (n + 1) _ (by omega) (tb_dv_q hc hq) hp)))
      by_cases z : 1 ≤ g
      · rw [show tb_mn g 1 = 1 from if_pos z] at K
        exact br_t z K
      · rw [show tb_mn g 1 = g from if_neg z] at K
        exact br_f z K
    · rw [tb_sk, if_neg y] at hp
      exact br_t (tb_b_eq y) (nm_r (nI_1 i) (ih (i + 1) n s (by omega) hq hp))
theorem tx_pb_l {post : Int32 → SX → Prop} {kc : Int32} {sf sg sc on kt kv : Nat → Int32} {t : Nat} {v g : Int32} (ht : tb_ok t) (hS : tb_IS sf sg sc) :
    ∀ k c n (s : tb_Q), c + k = 4 → tb_IQ s.2.2.2.1 → post (tb_pb on (fun c => tb_bx sf sg sc c (nI t)) (nI t) v g k c n s).1 (kc, sf, sg, sc, (tb_pb on (fun c => tb_bx sf sg sc c (nI t)) (nI t) v g k c n s).2.1, (tb_pb on (fun c => tb_bx sf sg sc c (nI t)) (nI t) v g k c n s).2.2.1, (tb_pb on (fun c => tb_bx sf sg sc c (nI t)) (nI t) v g k c n s).2.2.2.1, (tb_pb on (fun c => tb_bx sf sg sc c (nI t)) (nI t) v g k c n s).2.2.2.2.1, on, (tb_pb on (fun c => tb_bx sf sg sc c (nI t)) (nI t) v g k c n s).2.2.2.2.2, kt, kv) →
    wX_publish_22 post (nI t) v g (k + 1) n (nI c) kc sf sg sc s.1 s.2.1 s.2.2.1 s.2.2.2.1 on s.2.2.2.2 kt kv := by
  intro k
  induction k with
  | zero => exact fun c n s hc hq hp => br_t (nI_le (a := 4) (by omega) (by omega)) hp
  | succ k ih =>
    intro c n s hk hq hp
    have hc : c < 4 := by omega
    refine br_f (nI_ge (b := 4) hc (by decide)) (tx_bg ht hc hS ?_)
    by_cases z : tb_bx sf sg sc c (nI t) = -1
    · rw [tb_pb, if_pos z] at hp
      exact br_t z (nm_r (nI_1 c) (ih (c + 1) n s (by omega) hq hp))
    · rw [tb_pb, if_neg z] at hp
      refine br_f z (tx_ls (tx_dv hc hq _ _ _ ?_))
      by_cases y : tb_dr on c (tb_mn (tb_bx sf sg sc c (nI t)) g) s = true
      · rw [if_pos y] at hp
        exact br_f (tb_b_ne y) (nm_e (nm_r (nI_1 c) (ih (c + 1) (n + 1) _ (by omega) (tb_dv_q hc hq) hp)))
      · rw [if_neg y] at hp
        exact br_t (tb_b_eq y) (nm_r (nI_1 c) (ih (c + 1) n _ (by omega) (tb_dv_q hc hq) hp))
theorem ty_pb_l {post : Int32 → SY → Prop} {kc : Int32} {sf sg sc on kt kv : Nat → Int32} {t : Nat} {v g : Int32} (ht : tb_ok t) (hS : tb_IS sf sg sc) :
    ∀ k c n (s : tb_Q), c + k = 4 → tb_IQ s.2.2.2.1 → post (tb_pb on (fun c => tb_bx sf sg sc c (nI t)) (nI t) v g k c n s).1 (kc, sf, sg, sc, (tb_pb on (fun c => tb_bx sf sg sc c (nI t)) (nI t) v g k c n s).2.1, (tb_pb on (fun c => tb_bx sf sg sc c (nI t)) (nI t) v g k c n s).2.2.1, (tb_pb on (fun c => tb_bx sf sg sc c (nI t)) (nI t) v g k c n s).2.2.2.1, (tb_pb on (fun c => tb_bx sf sg sc c (nI t)) (nI t) v g k c n s).2.2.2.2.1, (tb_pb on (fun c => tb_bx sf sg sc c (nI t)) (nI t) v g k c n s).2.2.2.2.2, on, kt, kv) →
    wY_publish_25 post (nI t) v g (k + 1) n (nI c) kc sf sg sc s.1 s.2.1 s.2.2.1 s.2.2.2.1 s.2.2.2.2 on kt kv := by
  intro k
  induction k with
  | zero => exact fun c n s hc hq hp => br_t (nI_le (a := 4) (by omega) (by omega)) hp
  | succ k ih =>
    intro c n s hk hq hp
    have hc : c < 4 := by omega
    have hb := tb_bxy (nI t) hS hc
    refine br_f (nI_ge (b := 4) hc (by decide)) (ty_bg ht hc hS ?_)
    by_cases z : tb_bx sf sg sc c (nI t) = -1
    · rw [tb_pb, if_pos z] at hp
      exact br_t ((tb_bxy_n hb).mp z) (nm_r (nI_1 c) (ih (c + 1) n s (by omega) hq hp))
    · rw [tb_pb, if_neg z] at hp
      refine br_f (fun w => z ((tb_bxy_n hb).mpr w)) ?_
      rw [tb_bxy_e hb z]
      have K : wY_publish_64 post (wY_publish_25 post (nI t) v g (k + 1)) (nI t) v g n (nI c) (tb_mn (tb_bx sf sg sc c (nI t)) g) v (nI t) (nI c) kc sf sg sc s.1 s.2.1 s.2.2.1 s.2.2.2.1 s.2.2.2.2 on kt kv := by
        unfold wY_publish_64
        refine ty_dv hc hq _ _ _ ?_
        by_cases y : tb_dr on c (tb_mn (tb_bx sf sg sc c (nI t)) g) s = true
        · rw [if_pos y] at hp
          exact br_f (tb_b_ne y) (nm_e (nm_r (nI_1 c) (ih (c + 1) (n + 1) _ (by omega) (tb_dv_q hc hq) hp)))
        · rw [if_neg y] at hp
          exact br_t (tb_b_eq y) (nm_r (nI_1 c) (ih (c + 1) n _ (by omega) (tb_dv_q hc hq) hp))
      by_cases w : g ≤ tb_bx sf sg sc c (nI t)
      · rw [show tb_mn (tb_bx sf sg sc c (nI t)) g = g from if_pos w] at K
        exact br_t w K
      · rw [show tb_mn (tb_bx sf sg sc c (nI t)) g = tb_bx sf sg sc c (nI t) from if_neg w] at K
        exact br_f w K

theorem i_vc_data {k : Nat} {u : SX} {v : SY} (I : i_Rel k u v) (hk : k + 2 ≤ 1024) : wpX_data (fun r => wpY_data (fun r' => r' = r ∧ i_Rel (k + 2) u v) v) u := by
  have R := i_up I
  obtain ⟨M, n, p, d, pl, vl, li, le, va, po, K, Q, rfl, rfl, HX, HY, hp, hq⟩ := I
  have hd := gx_pt_d hp
  have lp := gx_pt_lt hp
  have hs : 0 < gx_sp d := Nat.two_pow_pos _
  have hn := HX.1
  have m2 := gt_ct_le HX (p + gx_sp d)
  have m3 : gt_ct M (p + 1) ≤ gt_ct M (p + gx_sp d) := gt_cn_mono _ (by omega)
  have ex : (∃ c, gt_has M c = true ∧ p < c ∧ c < p + gx_sp d) ↔ gt_ct M (p + 1) < gt_ct M (p + gx_sp d) := by
    constructor
    · rintro ⟨c, a0, a1, a2⟩
      have e1 : gt_ct M (p + 1) ≤ gt_ct M c := gt_cn_mono _ a1
      have e2 : gt_ct M c < gt_ct M (p + gx_sp d) := gt_cn_lt a2 a0
      omega
    · intro z
      obtain ⟨c, a1, a2, a3, _⟩ := gt_cn_ex z
      exact ⟨c, a3, by omega, a2⟩
  unfold wpX_data
  dsimp only
  refine gw_hv HX p (by omega) (fun hN => br_t rfl ?_) (fun w hS => br_f gv_1 ?_)
  · have e1 : gt_ct M (p + 1) = gt_ct M p := gt_cn_f (gt_has_n hN)
    unfold wX_data_16
    refine gw_cw HX p d (by omega) hd (pk_le (gt_ct M (p + gx_sp d) - gt_ct M p) 0 (fun z => ?_) (fun z => ?_))
    · refine gv_data HY hp hq (fun b hb => ⟨?_, R⟩)
      rw [if_neg (by rw [gt_has_n hN]; decide)]
      cases b with
      | false => rfl
      | true =>
        have := ex.mp (hb.mp rfl)
        omega
    · refine gv_data HY hp hq (fun b hb => ⟨?_, R⟩)
      rw [if_neg (by rw [gt_has_n hN]; decide)]
      cases b with
      | true => rfl
      | false => exact absurd (hb.mpr (ex.mpr (by omega))) (by decide)
  · have e1 : gt_ct M (p + 1) = gt_ct M p + 1 := gt_cn_t (gt_has_s hS)
    unfold wX_data_16
    refine gw_cw HX p d (by omega) hd (pk_le (gt_ct M (p + gx_sp d) - gt_ct M p) 1 (fun z => ?_) (fun z => ?_))
    · refine gv_data HY hp hq (fun b hb => ⟨?_, R⟩)
      rw [if_pos (gt_has_s hS)]
      cases b with
      | false => rfl
      | true =>
        have := ex.mp (hb.mp rfl)
        omega
    · refine gv_data HY hp hq (fun b hb => ⟨?_, R⟩)
      rw [if_pos (gt_has_s hS)]
      cases b with
      | true => rfl
      | false => exact absurd (hb.mpr (ex.mpr (by omega))) (by decide)
theorem i_vc_value {k : Nat} {u : SX} {v : SY} (I : i_Rel k u v) (hk : k + 2 ≤ 1024) : wpX_value (fun r => wpY_value (fun r' => r' = r ∧ i_Rel (k + 2) u v) v) u := by
  have R := i_up I
  obtain ⟨M, n, p, d, pl, vl, li, le, va, po, K, Q, rfl, rfl, HX, HY, hp, hq⟩ := I
  have lp := gx_pt_lt hp
  unfold wpX_value
  dsimp only
  exact gw_va HX p (by omega) (gv_value HY hp hq ⟨rfl, R⟩)
theorem i_vc_next {k : Nat} {u : SX} {v : SY} (I : i_Rel k u v) (hk : k + 2 ≤ 1024) : wpX_next (fun r => wpY_next (fun r' => r' = r ∧ i_Rel (k + 2) u v) v) u := by
  have R := i_up I
  obtain ⟨M, n, p, d, pl, vl, li, le, va, po, K, Q, rfl, rfl, HX, HY, hp, hq⟩ := I
  have hd := gx_pt_d hp
  have lp := gx_pt_lt hp
  have hn := HX.1
  unfold wpX_next wpY_next
  dsimp only
  cases d with
  | zero => exact br_t rfl (br_t rfl ⟨rfl, R⟩)
  | succ d =>
    have hs : 0 < gx_sp (d + 1) := Nat.two_pow_pos _
    have lP := gx_pt_lt (gx_pt_up hp)
    have hr := gt_ct_le HX (p + gx_sp (d + 1))
    have bp := gy_pd_b hp (k := d) (by omega)
    rw [nI_pred]
    refine br_f (nI_ne0 (by omega) (by omega)) (gw_par (by omega) (by omega) (gw_sp hd (nm_r (nI_add _ _) (gw_cb HX (p + gx_sp (d + 1)) (by omega) (gw_ch HX (gt_ct M (p + gx_sp (d + 1))) _ d (by omega) (by omega) lP (fun z1 z2 z3 => br_f (nI_ne0 (by omega) (by omega)) ⟨vp_in_nI (by omega) (by omega), ?_⟩) (fun hno => br_f (nI_ne0 (by omega) (by omega)) ⟨vp_in_nI (by omega) (by omega), ?_⟩))))))
    · rw [nI_clamp (by omega), hq d (by omega)]
      have hK := gt_K_lt HX z1
      have g2 := gz_lst2 HX z1
      have hM := HX.2.2.1 _ z1
      have okK := HX.2.2.2.2.2 _ _ hM
      have eK : K (gt_ct M (p + gx_sp (d + 1))) / gx_sp d = p / gx_sp d := (gz_par hp).mp ⟨Nat.le_of_lt z2, z3⟩
      have lK := gz_Pl hp okK eK z2
      have wK := (gz_nx hp eK).mp g2
      obtain ⟨x, hx, ex⟩ := HY.2.2.2.2.1 _ _ hM
      refine gv_near HY hp hq (k := d) (Nat.le_succ d) (by omega) bp (W := fun a b => b < a) gz_w1 (fun a b c h1 h2 => by omega) (fun a => Nat.lt_irrefl a) (fun j hj b1 b2 b3 b4 => ⟨?_, R⟩) (fun b => absurd wK ?_)
      · have okj := gy_Q_ok HY hj
        have lj := gt_ok_lt okj
        have g1 := (gz_lst HX (HY.2.2.1 j hj) ((gz_nx hp b1).mpr b3)).2
        have c1 := gz_mo hK lj (by omega) (eK.trans b1.symm) g1
        have c2 := b4 x hx (by rw [ex]; exact eK) (by rw [ex]; exact lK) (by rw [ex]; exact wK)
        rw [ex] at c2
        rw [gz_dgsp hK (by omega)]
        exact congrArg (fun t => nI t - 51) (show gy_dg (Q j) d = gy_dg (K (gt_ct M (p + gx_sp (d + 1)))) d by omega)
      · have := b x hx (by rw [ex]; exact eK) (by rw [ex]; exact lK)
        rw [ex] at this
        exact this
    · rw [nI_clamp (by omega), hq d (by omega)]
      refine gv_near HY hp hq (k := d) (Nat.le_succ d) (by omega) bp (W := fun a b => b < a) gz_w1 (fun a b c h1 h2 => by omega) (fun a => Nat.lt_irrefl a) (fun j hj b1 b2 b3 b4 => absurd ?_ hno) (fun b => ⟨rfl, R⟩)
      have g0 := (gz_nx hp b1).mpr b3
      obtain ⟨g1, g2⟩ := gz_lst HX (HY.2.2.1 j hj) g0
      have g3 := gz_lst2 HX g1
      have g4 := (gz_par hp).mpr b1
      have g5 : p / gx_sp d * gx_sp d ≤ p := Nat.div_mul_le_self _ _
      exact ⟨g1, by omega, by omega⟩
theorem i_vc_previous {k : Nat} {u : SX} {v : SY} (I : i_Rel k u v) (hk : k + 2 ≤ 1024) : wpX_previous (fun r => wpY_previous (fun r' => r' = r ∧ i_Rel (k + 2) u v) v) u := by
  have R := i_up I
  obtain ⟨M, n, p, d, pl, vl, li, le, va, po, K, Q, rfl, rfl, HX, HY, hp, hq⟩ := I
  have hd := gx_pt_d hp
  have lp := gx_pt_lt hp
  have hn := HX.1
  unfold wpX_previous wpY_previous
  dsimp only
  cases d with
  | zero => exact br_t rfl (br_t rfl ⟨rfl, R⟩)
  | succ d =>
    have hs : 0 < gx_sp (d + 1) := Nat.two_pow_pos _
    have lP := gx_pt_lt (gx_pt_up hp)
    have hr := gt_ct_le HX p
    have bp := gy_pd_b hp (k := d) (by omega)
    have g4 : p / gx_sp d * gx_sp d ≤ p ∧ p < p / gx_sp d * gx_sp d + gx_sp d := (gz_par hp).mpr rfl
    rw [nI_pred]
    refine br_f (nI_ne0 (by omega) (by omega)) (gw_par (by omega) (by omega) (gw_cb HX p (by omega) (nm_e ?_)))
    by_cases z0 : gt_ct M p = 0
    · rw [z0]
      refine gw_ch0 (br_f (nI_ne0 (by omega) (by omega)) ⟨vp_in_nI (by omega) (by omega), ?_⟩)
      rw [nI_clamp (by omega), hq d (by omega)]
      refine gv_near HY hp hq (k := d) (Nat.le_succ d) (by omega) bp (W := fun a b => a < b) gz_w2 (fun a b c h1 h2 => by omega) (fun a => Nat.lt_irrefl a) (fun j hj b1 b2 b3 b4 => absurd z0 ?_) (fun b => ⟨rfl, R⟩)
      have := (gz_gst HX (HY.2.2.1 j hj) ((gz_pv hp b1).mpr b3)).1
      omega
    · obtain ⟨q1, q2⟩ := gz_gst2 HX (e := p) (by omega)
      have e1 : nI (gt_ct M p) - 1 = nI (gt_ct M p - 1) := by
        obtain ⟨m, em⟩ : ∃ m, gt_ct M p = m + 1 := ⟨gt_ct M p - 1, by omega⟩
        rw [em, nI_pred]; rfl
      rw [e1]
      refine gw_ch HX (gt_ct M p - 1) _ d (by omega) (by omega) lP (fun z1 z2 z3 => br_f (nI_ne0 (by omega) (by omega)) ⟨vp_in_nI (by omega) (by omega), ?_⟩) (fun hno => br_f (nI_ne0 (by omega) (by omega)) ⟨vp_in_nI (by omega) (by omega), ?_⟩)
      · rw [nI_clamp (by omega), hq d (by omega)]
        have hK := gt_K_lt HX z1
        have hM := HX.2.2.1 _ z1
        have okK := HX.2.2.2.2.2 _ _ hM
        have eK : K (gt_ct M p - 1) / gx_sp d = p / gx_sp d := (gz_par hp).mp ⟨Nat.le_of_lt z2, z3⟩
        have lK := gz_Pl hp okK eK z2
        have wK := (gz_pv hp eK).mp q2
        obtain ⟨x, hx, ex⟩ := HY.2.2.2.2.1 _ _ hM
        refine gv_near HY hp hq (k := d) (Nat.le_succ d) (by omega) bp (W := fun a b => a < b) gz_w2 (fun a b c h1 h2 => by omega) (fun a => Nat.lt_irrefl a) (fun j hj b1 b2 b3 b4 => ⟨?_, R⟩) (fun b => absurd wK ?_)
        · have okj := gy_Q_ok HY hj
          have lj := gt_ok_lt okj
          have g1 := (gz_gst HX (HY.2.2.1 j hj) ((gz_pv hp b1).mpr b3)).2
          have c1 := gz_mo lj hK (by omega) (b1.trans eK.symm) g1
          have c2 := b4 x hx (by rw [ex]; exact eK) (by rw [ex]; exact lK) (by rw [ex]; exact wK)
          rw [ex] at c2
          rw [gz_dgsp hK (by omega)]
          exact congrArg (fun t => nI t - 51) (show gy_dg (Q j) d = gy_dg (K (gt_ct M p - 1)) d by omega)
        · have := b x hx (by rw [ex]; exact eK) (by rw [ex]; exact lK)
          rw [ex] at this
          exact this
      · rw [nI_clamp (by omega), hq d (by omega)]
        refine gv_near HY hp hq (k := d) (Nat.le_succ d) (by omega) bp (W := fun a b => a < b) gz_w2 (fun a b c h1 h2 => by omega) (fun a => Nat.lt_irrefl a) (fun j hj b1 b2 b3 b4 => absurd ?_ hno) (fun b => ⟨rfl, R⟩)
        have g1 := (gz_gst HX (HY.2.2.1 j hj) ((gz_pv hp b1).mpr b3)).2
        have g5 := gz_pP hp (gy_Q_ok HY hj) b1 b2
        exact ⟨q1, by omega, by omega⟩
theorem i_vc_first {k : Nat} {u : SX} {v : SY} (I : i_Rel k u v) (hk : k + 2 ≤ 1024) : wpX_first (fun r => wpY_first (fun r' => r' = r ∧ i_Rel (k + 2) u v) v) u := by
  have R := i_up I
  obtain ⟨M, n, p, d, pl, vl, li, le, va, po, K, Q, rfl, rfl, HX, HY, hp, hq⟩ := I
  have hd := gx_pt_d hp
  have lp := gx_pt_lt hp
  have hs : 0 < gx_sp d := Nat.two_pow_pos _
  have hn := HX.1
  unfold wpX_first wpY_first
  dsimp only
  refine pk_eq d 3 (fun z => br_t (by rw [z]; rfl) ⟨rfl, R⟩) (fun z => ?_)
  have z : d < 3 := by omega
  have hr := gt_ct_le HX (p + 1)
  rw [nI_1, gv_51]
  refine gw_cb HX (p + 1) (by omega) (gw_ch HX (gt_ct M (p + 1)) p d (by omega) z lp (fun z1 z2 z3 => pk_eq d 3 (fun y => absurd y (by omega)) (fun _ => ?_)) (fun hno => pk_eq d 3 (fun y => absurd y (by omega)) (fun _ => ?_)))
  · have hK := gt_K_lt HX z1
    have hM := HX.2.2.1 _ z1
    have okK := HX.2.2.2.2.2 _ _ hM
    have eK : K (gt_ct M (p + 1)) / gx_sp d = p / gx_sp d := (gy_rng hp).mpr ⟨Nat.le_of_lt z2, z3⟩
    have lr := gy_len_rng okK hp (Nat.le_of_lt z2) z3
    have lK : d < gy_len (K (gt_ct M (p + 1))) := by
      by_cases t : gy_len (K (gt_ct M (p + 1))) ≤ d
      · have := lr.mp t
        omega
      · omega
    have wK := gy_dg_in okK lK
    obtain ⟨x, hx, ex⟩ := HY.2.2.2.2.1 _ _ hM
    refine gv_near HY hp hq (k := d) (Nat.le_refl d) z (Nat.zero_le 101) (W := fun a b => b < a) gz_w1 (fun a b c h1 h2 => by omega) (fun a => Nat.lt_irrefl a) (fun j hj b1 b2 b3 b4 => ⟨?_, R⟩) (fun b => absurd wK ?_)
    · have okj := gy_Q_ok HY hj
      have lj := gt_ok_lt okj
      have r1 := (gy_rng hp).mp b1
      have ne : Q j ≠ p := fun t => by
        have := (gy_len_rng okj hp r1.1 r1.2).mpr t
        omega
      have g1 := (gz_lst HX (HY.2.2.1 j hj) (show p + 1 ≤ Q j by omega)).2
      have c1 := gz_mo hK lj z (eK.trans b1.symm) g1
      have c2 := b4 x hx (by rw [ex]; exact eK) (by rw [ex]; exact lK) (by rw [ex]; exact wK)
      rw [ex] at c2
      rw [gz_dgsp hK z]
      exact congrArg (fun t => nI t - 51) (show gy_dg (Q j) d = gy_dg (K (gt_ct M (p + 1))) d by omega)
    · have := b x hx (by rw [ex]; exact eK) (by rw [ex]; exact lK)
      rw [ex] at this
      exact this
  · refine gv_near HY hp hq (k := d) (Nat.le_refl d) z (Nat.zero_le 101) (W := fun a b => b < a) gz_w1 (fun a b c h1 h2 => by omega) (fun a => Nat.lt_irrefl a) (fun j hj b1 b2 b3 b4 => absurd ?_ hno) (fun b => ⟨rfl, R⟩)
    have okj := gy_Q_ok HY hj
    have r1 := (gy_rng hp).mp b1
    have ne : Q j ≠ p := fun t => by
      have := (gy_len_rng okj hp r1.1 r1.2).mpr t
      omega
    obtain ⟨g1, g2⟩ := gz_lst HX (HY.2.2.1 j hj) (show p + 1 ≤ Q j by omega)
    have g3 := gz_lst2 HX g1
    exact ⟨g1, by omega, by omega⟩
